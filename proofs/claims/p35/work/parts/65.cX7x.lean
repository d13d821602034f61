/-! forests by their edges alone; commands -/
noncomputable def gT (n : Nat) (E : Nat → Nat → Nat) : (Nat → Nat → Prop) × (Nat → Nat → Nat) × (Nat → Nat → Nat) := Classical.epsilon (fun t => Fst n (fun _ => 0) E t.1 t.2.1 t.2.2)
noncomputable abbrev gc (n : Nat) (E : Nat → Nat → Nat) : Nat → Nat → Prop := (gT n E).1
noncomputable abbrev gd (n : Nat) (E : Nat → Nat → Nat) : Nat → Nat → Nat := (gT n E).2.1
noncomputable abbrev gh (n : Nat) (E : Nat → Nat → Nat) : Nat → Nat → Nat := (gT n E).2.2
/-- the edges E are a forest of n vertices -/
def Gd (n : Nat) (E : Nat → Nat → Nat) : Prop := Fst n (fun _ => 0) E (gc n E) (gd n E) (gh n E)
section GD
variable {n : Nat} {w : Nat → Nat} {E : Nat → Nat → Nat} {c : Nat → Nat → Prop} {D H : Nat → Nat → Nat}
theorem Gd.of (F : Fst n w E c D H) : Gd n E := Classical.epsilon_spec (p := fun t : (Nat → Nat → Prop) × (Nat → Nat → Nat) × (Nat → Nat → Nat) => Fst n (fun _ => 0) E t.1 t.2.1 t.2.2) ⟨(c, D, H), F.1, fun _ _ => Nat.zero_le _, F.2.2⟩
theorem Gd.f (h : Gd n E) (hw : ∀ v, v < n → w v ≤ 99) : Fst n w E (gc n E) (gd n E) (gh n E) := ⟨h.1, hw, h.2.2⟩
theorem Gd.link (h : Gd n E) {u v k : Nat} (hu : u < n) (hv : v < n) (hn : ¬ gc n E u v) (hk : 0 < k) (hk2 : k ≤ 99) : Gd n (updE E u v k) := by
  obtain ⟨D', H', F', -⟩ := Fst.link h hu hv hn hk hk2
  exact Gd.of F'
theorem Gd.cut (h : Gd n E) {u v : Nat} (e : 0 < E u v) : Gd n (updE E u v 0) := Gd.of (Fst.cut h e)
theorem Gd.rew (h : Gd n E) {u v k : Nat} (e : 0 < E u v) (hk : 0 < k) (hk2 : k ≤ 99) : Gd n (updE E u v k) := by
  obtain ⟨D', F', -⟩ := Fst.rew h e hk hk2
  exact Gd.of F'
end GD
/-- u leaves before v -/
def Earl (n : Nat) (E : Nat → Nat → Nat) (u v : Nat) : Prop := ∃ T, Fin1 (S0 E (gc n E) u) T ∧ ¬ (StC (S0 E (gc n E) u) T).2.2 u = -9 ∧ ((StC (S0 E (gc n E) u) T).2.2 v = -9 ∨ ¬ (StC (S0 E (gc n E) u) T).2.2 v ≤ (StC (S0 E (gc n E) u) T).2.2 u)
def cmdOk (n : Nat) (E : Nat → Nat → Nat) (how u v : Nat) : Prop := if how = 1 then (u < n ∧ v < n ∧ ¬ gc n E u v) else if how = 2 then (u < n ∧ v < n ∧ 0 < E u v) else if how = 3 then gc n E u v else if how = 4 then (gc n E u v ∧ AMin (gc n E u) (Ecc n (gc n E) (gd n E)) n v) else if how = 5 then (gc n E u v ∧ Earl n E u v) else False
def cmdE (E : Nat → Nat → Nat) (how u v : Nat) : Nat → Nat → Nat := if how = 1 then updE E u v 1 else if how = 2 then updE E u v 0 else E
theorem cmdOk_0 {n : Nat} {E : Nat → Nat → Nat} {how u v : Nat} (h : ¬ how = 1 ∧ ¬ how = 2 ∧ ¬ how = 3 ∧ ¬ how = 4 ∧ ¬ how = 5) : ¬ cmdOk n E how u v := by
  unfold cmdOk
  rw [if_neg h.1, if_neg h.2.1, if_neg h.2.2.1, if_neg h.2.2.2.1, if_neg h.2.2.2.2]
  exact fun z => z
theorem Gd.cmd {n : Nat} {E : Nat → Nat → Nat} {how u v : Nat} (h : Gd n E) (q : cmdOk n E how u v) : Gd n (cmdE E how u v) := by
  unfold cmdE
  unfold cmdOk at q
  by_cases e1 : how = 1
  · rw [if_pos e1]; rw [if_pos e1] at q; exact h.link q.1 q.2.1 q.2.2 (by decide) (by decide)
  · rw [if_neg e1]; rw [if_neg e1] at q
    by_cases e2 : how = 2
    · rw [if_pos e2]; rw [if_pos e2] at q; exact h.cut q.2.2
    · rw [if_neg e2]; exact h
theorem LinkErr.ok {n : Nat} {c : Nat → Nat → Prop} {u v : Nat} {x y : Int32} (h : LinkErr n c (nI u) (nI v) x y) (hx : 1 ≤ x.toInt ∧ x.toInt ≤ 99) (hu : u < 2147483648) (hv : v < 2147483648) (hn : n ≤ 12) : y = 0 ↔ (u < n ∧ v < n ∧ ¬ c u v) := by
  rcases h with ⟨h1, h2⟩ | ⟨i, j, ⟨hi, hj, e1, e2⟩, ⟨h1, -⟩ | ⟨-, ⟨h1, h2⟩ | ⟨h1, h2⟩⟩⟩
  · refine ⟨fun z => absurd (h2.symm.trans z) (by decide), fun z => absurd ⟨Vx.of z.1 hn, Vx.of z.2.1 hn⟩ h1⟩
  · exact absurd hx h1
  · have e1 := (i_neq hu (by omega)).mp e1
    have e2 := (i_neq hv (by omega)).mp e2
    subst e1; subst e2
    exact ⟨fun z => absurd (h2.symm.trans z) (by decide), fun z => absurd h1 z.2.2⟩
  · have e1 := (i_neq hu (by omega)).mp e1
    have e2 := (i_neq hv (by omega)).mp e2
    subst e1; subst e2
    exact ⟨fun _ => ⟨hi, hj, h1⟩, fun _ => h2⟩
theorem EdgeErr.ok {n : Nat} {E : Nat → Nat → Nat} {u v : Nat} {x y : Int32} (h : EdgeErr n E (nI u) (nI v) x y) (hx : 1 ≤ x.toInt ∧ x.toInt ≤ 99) (hu : u < 2147483648) (hv : v < 2147483648) (hn : n ≤ 12) : y = 0 ↔ (u < n ∧ v < n ∧ 0 < E u v) := by
  rcases h with ⟨h1, h2⟩ | ⟨i, j, ⟨hi, hj, e1, e2⟩, ⟨h1, -⟩ | ⟨-, ⟨h1, h2⟩ | ⟨h1, h2⟩⟩⟩
  · refine ⟨fun z => absurd (h2.symm.trans z) (by decide), fun z => absurd ⟨Vx.of z.1 hn, Vx.of z.2.1 hn⟩ h1⟩
  · exact absurd hx h1
  · have e1 := (i_neq hu (by omega)).mp e1
    have e2 := (i_neq hv (by omega)).mp e2
    subst e1; subst e2
    exact ⟨fun z => absurd (h2.symm.trans z) (by decide), fun z => by have := z.2.2; omega⟩
  · have e1 := (i_neq hu (by omega)).mp e1
    have e2 := (i_neq hv (by omega)).mp e2
    subst e1; subst e2
    exact ⟨fun _ => ⟨hi, hj, h1⟩, fun _ => h2⟩
theorem LinkErr.uq {n : Nat} {c : Nat → Nat → Prop} {u v x y y' : Int32} (hn : n ≤ 12) (h : LinkErr n c u v x y) (g : LinkErr n c u v x y') : y = y' := by
  rcases h with ⟨h1, h2⟩ | ⟨i, j, ⟨hi, hj, e1, e2⟩, h3⟩ <;> rcases g with ⟨g1, g2⟩ | ⟨i', j', ⟨hi', hj', e1', e2'⟩, g3⟩
  · rw [h2, g2]
  · exact absurd ⟨by rw [e1']; exact Vx.of hi' hn, by rw [e2']; exact Vx.of hj' hn⟩ h1
  · exact absurd ⟨by rw [e1]; exact Vx.of hi hn, by rw [e2]; exact Vx.of hj hn⟩ g1
  · have e3 := (i_neq (by omega) (by omega)).mp (e1.symm.trans e1')
    have e4 := (i_neq (by omega) (by omega)).mp (e2.symm.trans e2')
    subst e3; subst e4
    rcases h3 with ⟨h1, h2⟩ | ⟨h1, ⟨h2, h3⟩ | ⟨h2, h3⟩⟩ <;> rcases g3 with ⟨g1, g2⟩ | ⟨g1, ⟨g2, g3⟩ | ⟨g2, g3⟩⟩
    · rw [h2, g2]
    · exact absurd g1 h1
    · exact absurd g1 h1
    · exact absurd h1 g1
    · rw [h3, g3]
    · exact absurd h2 g2
    · exact absurd h1 g1
    · exact absurd g2 h2
    · rw [h3, g3]
theorem EdgeErr.uq {n : Nat} {E : Nat → Nat → Nat} {u v x y y' : Int32} (hn : n ≤ 12) (h : EdgeErr n E u v x y) (g : EdgeErr n E u v x y') : y = y' := by
  rcases h with ⟨h1, h2⟩ | ⟨i, j, ⟨hi, hj, e1, e2⟩, h3⟩ <;> rcases g with ⟨g1, g2⟩ | ⟨i', j', ⟨hi', hj', e1', e2'⟩, g3⟩
  · rw [h2, g2]
  · exact absurd ⟨by rw [e1']; exact Vx.of hi' hn, by rw [e2']; exact Vx.of hj' hn⟩ h1
  · exact absurd ⟨by rw [e1]; exact Vx.of hi hn, by rw [e2]; exact Vx.of hj hn⟩ g1
  · have e3 := (i_neq (by omega) (by omega)).mp (e1.symm.trans e1')
    have e4 := (i_neq (by omega) (by omega)).mp (e2.symm.trans e2')
    subst e3; subst e4
    rcases h3 with ⟨h1, h2⟩ | ⟨h1, ⟨h2, h3⟩ | ⟨h2, h3⟩⟩ <;> rcases g3 with ⟨g1, g2⟩ | ⟨g1, ⟨g2, g3⟩ | ⟨g2, g3⟩⟩
    · rw [h2, g2]
    · exact absurd g1 h1
    · exact absurd g1 h1
    · exact absurd h1 g1
    · rw [h3, g3]
    · omega
    · exact absurd h1 g1
    · omega
    · rw [h3, g3]
section KM
variable {l : Launch} {G : Gx} {mem : Mem} {n : Nat} {w : Nat → Nat} {E : Nat → Nat → Nat}
end KM
