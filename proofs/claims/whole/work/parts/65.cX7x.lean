/-! forests by their edges alone; commands -/
noncomputable def gT (n : Nat) (E : Nat → Nat → Nat) : (Nat → Nat → Prop) × (Nat → Nat → Nat) × (Nat → Nat → Nat) := Classical.epsilon (fun t => Fst n (fun _ => 0) E t.1 t.2.1 t.2.2)
noncomputable abbrev gc (n : Nat) (E : Nat → Nat → Nat) : Nat → Nat → Prop := (gT n E).1
noncomputable abbrev gd (n : Nat) (E : Nat → Nat → Nat) : Nat → Nat → Nat := (gT n E).2.1
noncomputable abbrev gh (n : Nat) (E : Nat → Nat → Nat) : Nat → Nat → Nat := (gT n E).2.2
/-- the edges E are a forest of n vertices -/
def Gd (n : Nat) (E : Nat → Nat → Nat) : Prop := Fst n (fun _ => 0) E (gc n E) (gd n E) (gh n E)
section GD
variable {n : Nat} {w : Nat → Nat} {E : Nat → Nat → Nat} {c : Nat → Nat → Prop} {D H : Nat → Nat → Nat}
theorem Gd.of (F : Fst n w E c D H) : Gd n E := Classical.epsilon_spec (p := fun t : (Nat → Nat → Prop) × (Nat → Nat → Nat) × (Nat → Nat → Nat) => Fst n (fun _ => 0) E t.1 t.2.1 t.2.2) ⟨(c, D, H), F.1, fun _ _ => Nat.zero_le _, F.2.2⟩
theorem Gd.f (h : Gd n E) (hw : ∀ v, v < n → w v ≤ 99) : Fst n w E (gc n E) (gd n E) (gh n E) := ⟨h.1, hw, h.2.2⟩
theorem Gd.link (h : Gd n E) {u v k : Nat} (hu : u < n) (hv : v < n) (hn : ¬ gc n E u v) (hk : 0 < k) (hk2 : k ≤ 99) : Gd n (updE E u v k) := by
  obtain ⟨D', H', F', -⟩ := Fst.link h hu hv hn hk hk2
  exact Gd.of F'
theorem Gd.cut (h : Gd n E) {u v : Nat} (e : 0 < E u v) : Gd n (updE E u v 0) := Gd.of (Fst.cut h e)
theorem Gd.rew (h : Gd n E) {u v k : Nat} (e : 0 < E u v) (hk : 0 < k) (hk2 : k ≤ 99) : Gd n (updE E u v k) := by
  obtain ⟨D', F', -⟩ := Fst.rew h e hk hk2
  exact Gd.of F'
end GD
/-- u leaves before v -/
def Earl (n : Nat) (E : Nat → Nat → Nat) (u v : Nat) : Prop := ∃ T, Fin1 (S0 E (gc n E) u) T ∧ ¬ (StC (S0 E (gc n E) u) T).2.2 u = -9 ∧ ((StC (S0 E (gc n E) u) T).2.2 v = -9 ∨ ¬ (StC (S0 E (gc n E) u) T).2.2 v ≤ (StC (S0 E (gc n E) u) T).2.2 u)
def cmdOk (n : Nat) (E : Nat → Nat → Nat) (how u v : Nat) : Prop := if how = 1 then (u < n ∧ v < n ∧ ¬ gc n E u v) else if how = 2 then (u < n ∧ v < n ∧ 0 < E u v) else if how = 3 then gc n E u v else if how = 4 then (gc n E u v ∧ AMin (gc n E u) (Ecc n (gc n E) (gd n E)) n v) else if how = 5 then (gc n E u v ∧ Earl n E u v) else False
def cmdE (E : Nat → Nat → Nat) (how u v : Nat) : Nat → Nat → Nat := if how = 1 then updE E u v 1 else if how = 2 then updE E u v 0 else E
theorem cmdOk_0 {n : Nat} {E : Nat → Nat → Nat} {how u v : Nat} (h : ¬ how = 1 ∧ ¬ how = 2 ∧ ¬ how = 3 ∧ ¬ how = 4 ∧ ¬ how = 5) : ¬ cmdOk n E how u v := by
  unfold cmdOk
  rw [if_neg h.1, if_neg h.2.1, if_neg h.2.2.1, if_neg h.2.2.2.1, if_neg h.2.2.2.2]
  exact fun z => z
theorem Gd.cmd {n : Nat} {E : Nat → Nat → Nat} {how u v : Nat} (h : Gd n E) (q : cmdOk n E how u v) : Gd n (cmdE E how u v) := by
  unfold cmdE
  unfold cmdOk at q
  by_cases e1 : how = 1
  · rw [if_pos e1]; rw [if_pos e1] at q; exact h.link q.1 q.2.1 q.2.2 (by decide) (by decide)
  · rw [if_neg e1]; rw [if_neg e1] at q
    by_cases e2 : how = 2
    · rw [if_pos e2]; rw [if_pos e2] at q; exact h.cut q.2.2
    · rw [if_neg e2]; exact h
theorem LinkErr.ok {n : Nat} {c : Nat → Nat → Prop} {u v : Nat} {x y : Int32} (h : LinkErr n c (nI u) (nI v) x y) (hx : 1 ≤ x.toInt ∧ x.toInt ≤ 99) (hu : u < 2147483648) (hv : v < 2147483648) (hn : n ≤ 12) : y = 0 ↔ (u < n ∧ v < n ∧ ¬ c u v) := by
  rcases h with ⟨h1, h2⟩ | ⟨i, j, ⟨hi, hj, e1, e2⟩, ⟨h1, -⟩ | ⟨-, ⟨h1, h2⟩ | ⟨h1, h2⟩⟩⟩
  · refine ⟨fun z => absurd (h2.symm.trans z) (by decide), fun z => absurd ⟨Vx.of z.1 hn, Vx.of z.2.1 hn⟩ h1⟩
  · exact absurd hx h1
  · have e1 := (i_neq hu (by omega)).mp e1
    have e2 := (i_neq hv (by omega)).mp e2
    subst e1; subst e2
    exact ⟨fun z => absurd (h2.symm.trans z) (by decide), fun z => absurd h1 z.2.2⟩
  · have e1 := (i_neq hu (by omega)).mp e1
    have e2 := (i_neq hv (by omega)).mp e2
    subst e1; subst e2
    exact ⟨fun _ => ⟨hi, hj, h1⟩, fun _ => h2⟩
theorem EdgeErr.ok {n : Nat} {E : Nat → Nat → Nat} {u v : Nat} {x y : Int32} (h : EdgeErr n E (nI u) (nI v) x y) (hx : 1 ≤ x.toInt ∧ x.toInt ≤ 99) (hu : u < 2147483648) (hv : v < 2147483648) (hn : n ≤ 12) : y = 0 ↔ (u < n ∧ v < n ∧ 0 < E u v) := by
  rcases h with ⟨h1, h2⟩ | ⟨i, j, ⟨hi, hj, e1, e2⟩, ⟨h1, -⟩ | ⟨-, ⟨h1, h2⟩ | ⟨h1, h2⟩⟩⟩
  · refine ⟨fun z => absurd (h2.symm.trans z) (by decide), fun z => absurd ⟨Vx.of z.1 hn, Vx.of z.2.1 hn⟩ h1⟩
  · exact absurd hx h1
  · have e1 := (i_neq hu (by omega)).mp e1
    have e2 := (i_neq hv (by omega)).mp e2
    subst e1; subst e2
    exact ⟨fun z => absurd (h2.symm.trans z) (by decide), fun z => by have := z.2.2; omega⟩
  · have e1 := (i_neq hu (by omega)).mp e1
    have e2 := (i_neq hv (by omega)).mp e2
    subst e1; subst e2
    exact ⟨fun _ => ⟨hi, hj, h1⟩, fun _ => h2⟩
theorem LinkErr.uq {n : Nat} {c : Nat → Nat → Prop} {u v x y y' : Int32} (hn : n ≤ 12) (h : LinkErr n c u v x y) (g : LinkErr n c u v x y') : y = y' := by
  rcases h with ⟨h1, h2⟩ | ⟨i, j, ⟨hi, hj, e1, e2⟩, h3⟩ <;> rcases g with ⟨g1, g2⟩ | ⟨i', j', ⟨hi', hj', e1', e2'⟩, g3⟩
  · rw [h2, g2]
  · exact absurd ⟨by rw [e1']; exact Vx.of hi' hn, by rw [e2']; exact Vx.of hj' hn⟩ h1
  · exact absurd ⟨by rw [e1]; exact Vx.of hi hn, by rw [e2]; exact Vx.of hj hn⟩ g1
  · have e3 := (i_neq (by omega) (by omega)).mp (e1.symm.trans e1')
    have e4 := (i_neq (by omega) (by omega)).mp (e2.symm.trans e2')
    subst e3; subst e4
    rcases h3 with ⟨h1, h2⟩ | ⟨h1, ⟨h2, h3⟩ | ⟨h2, h3⟩⟩ <;> rcases g3 with ⟨g1, g2⟩ | ⟨g1, ⟨g2, g3⟩ | ⟨g2, g3⟩⟩
    · rw [h2, g2]
    · exact absurd g1 h1
    · exact absurd g1 h1
    · exact absurd h1 g1
    · rw [h3, g3]
    · exact absurd h2 g2
    · exact absurd h1 g1
    · exact absurd g2 h2
    · rw [h3, g3]
theorem EdgeErr.uq {n : Nat} {E : Nat → Nat → Nat} {u v x y y' : Int32} (hn : n ≤ 12) (h : EdgeErr n E u v x y) (g : EdgeErr n E u v x y') : y = y' := by
  rcases h with ⟨h1, h2⟩ | ⟨i, j, ⟨hi, hj, e1, e2⟩, h3⟩ <;> rcases g with ⟨g1, g2⟩ | ⟨i', j', ⟨hi', hj', e1', e2'⟩, g3⟩
  · rw [h2, g2]
  · exact absurd ⟨by rw [e1']; exact Vx.of hi' hn, by rw [e2']; exact Vx.of hj' hn⟩ h1
  · exact absurd ⟨by rw [e1]; exact Vx.of hi hn, by rw [e2]; exact Vx.of hj hn⟩ g1
  · have e3 := (i_neq (by omega) (by omega)).mp (e1.symm.trans e1')
    have e4 := (i_neq (by omega) (by omega)).mp (e2.symm.trans e2')
    subst e3; subst e4
    rcases h3 with ⟨h1, h2⟩ | ⟨h1, ⟨h2, h3⟩ | ⟨h2, h3⟩⟩ <;> rcases g3 with ⟨g1, g2⟩ | ⟨g1, ⟨g2, g3⟩ | ⟨g2, g3⟩⟩
    · rw [h2, g2]
    · exact absurd g1 h1
    · exact absurd g1 h1
    · exact absurd h1 g1
    · rw [h3, g3]
    · omega
    · exact absurd h1 g1
    · omega
    · rw [h3, g3]
/-- the cells that the model's commands change -/
def COut (mem m : Mem) : Prop := (∀ a, a ≠ 327 → a ≠ 330 → (a < 336 ∨ 343 ≤ a) → m a = mem a) ∧ ∀ j, j ≠ 22 → j ≠ 23 → m 327 j = mem 327 j
theorem COut.rf {m : Mem} : COut m m := ⟨fun _ _ _ _ => rfl, fun _ _ _ => rfl⟩
theorem COut.tr {m1 m2 m3 : Mem} (h : COut m1 m2) (h2 : COut m2 m3) : COut m1 m3 := ⟨fun a a1 a2 a3 => (h2.1 a a1 a2 a3).trans (h.1 a a1 a2 a3), fun j j1 j2 => (h2.2 j j1 j2).trans (h.2 j j1 j2)⟩
theorem COut.f {m1 m2 : Mem} (h : ∀ a, a ≠ 336 → a ≠ 337 → m2 a = m1 a) : COut m1 m2 := ⟨fun a _ _ a3 => h a (by omega) (by omega), fun j _ _ => by rw [h 327 (by decide) (by decide)]⟩
theorem COut.F {m1 m2 : Mem} (h : FOut m1 m2) : COut m1 m2 := ⟨fun a _ _ a3 => h a (by omega) (by omega) (by omega), fun j _ _ => by rw [h 327 (by decide) (by decide) (by decide)]⟩
theorem COut.t {m1 m2 : Mem} (h : ∀ a, a ≠ 330 → m2 a = m1 a) : COut m1 m2 := ⟨fun a _ a2 _ => h a a2, fun j _ _ => by rw [h 327 (by decide)]⟩
theorem COut.M {m1 m2 : Mem} (h : MOut m1 m2) : COut m1 m2 := ⟨fun a a1 a2 a3 => h.1 a a1 (by omega) (by omega) (by omega), h.2⟩
section KM
variable {l : Launch} {G : Gx} {mem : Mem} {n : Nat} {w : Nat → Nat} {E : Nat → Nat → Nat}
theorem c_command (hG : Mn G) (ht : Ra G 330) (h : RoAt mem 330 w E) (g : Gd n E) (hw : ∀ v, v < n → w v ≤ 99) (h3 : mem 327 3 = nI n) {how u v : Nat} (hh : how < 2147483648) (hu : u < 2147483648) (hv : v < 2147483648) : CtI l M_X7_command G [.ref (gA G 327), .int (nI how), .int (nI u), .int (nI v)] mem (fun r m => COut mem m ∧ ((cmdOk n E how u v ∧ r = 1 ∧ RoAt m 330 w (cmdE E how u v)) ∨ (¬ cmdOk n E how u v ∧ r = 0))) := by
  have F := g.f hw
  have T := F.tD
  have hn := F.le
  refine CtI_of (by decide) (Nat.le_of_ble_eq_true rfl) rfl (t_X7_command_0 hG _ _ _ mem ?_)
  have key : ∀ (m : Mem) (b : Int32), (∀ a, a ≠ 336 → a ≠ 337 → m a = mem a) → ((b = 1 ∧ gc n E u v) ∨ (b = 0 ∧ ¬ gc n E u v)) → XI l M_X7_command G (fun r m => COut mem m ∧ ((cmdOk n E how u v ∧ r = 1 ∧ RoAt m 330 w (cmdE E how u v)) ∨ (¬ cmdOk n E how u v ∧ r = 0))) m 36 [(0, .ref (gA G 327)), (1, .int (nI how)), (2, .int (nI u)), (3, .int (nI v)), (4, .int b)] [] := by
    intro m b o hb
    have hR : RoAt m 330 w E := h.eq' (o 330 (by decide) (by decide))
    have n3 : m 327 3 = nI n := by rw [o 327 (by decide) (by decide)]; exact h3
    have co : COut mem m := COut.f o
    have i1 : 1 ≤ (1 : Int32).toInt ∧ (1 : Int32).toInt ≤ 99 := by decide
    refine t_X7_command_36 hG _ _ _ _ m ?_
    rw [i_nI hh]
    refine ⟨fun e => ?_, fun e => ?_, fun e => ?_, fun e => ?_, fun e => ?_, fun e1 e2 e3 e4 e5 => ⟨co, Or.inr ⟨cmdOk_0 (by omega), rfl⟩⟩⟩
    · have e : how = 1 := by omega
      subst e
      refine ⟨_, c_mLinkErr hG ht hR F n3 _ _ _, ?_⟩
      rintro y m2 ⟨k1, k2⟩
      have ok := k2.ok i1 hu hv hn
      have co2 := co.tr (COut.f k1)
      refine ⟨fun z => ?_, fun z => ⟨co2, Or.inr ⟨fun y => z (ok.mpr y), rfl⟩⟩⟩
      obtain ⟨q1, q2, q3⟩ := ok.mp z
      refine ⟨_, c_join ht (hR.eq' (k1 330 (by decide) (by decide))) (x := 1) (by omega : u < 12) (by omega : v < 12), ?_⟩
      rintro m3 ⟨k3, k4⟩
      exact ⟨co2.tr (COut.t k3), Or.inl ⟨⟨q1, q2, q3⟩, rfl, k4⟩⟩
    · have e : how = 2 := by omega
      subst e
      refine ⟨_, c_mEdgeErr hG ht hR F n3 _ _ _, ?_⟩
      rintro y m2 ⟨rfl, k2⟩
      have ok := k2.ok i1 hu hv hn
      refine ⟨fun z => ?_, fun z => ⟨co, Or.inr ⟨fun y => z (ok.mpr y), rfl⟩⟩⟩
      obtain ⟨q1, q2, q3⟩ := ok.mp z
      refine ⟨_, c_join ht hR (x := 0) (by omega : u < 12) (by omega : v < 12), ?_⟩
      rintro m3 ⟨k3, k4⟩
      exact ⟨co.tr (COut.t k3), Or.inl ⟨⟨q1, q2, q3⟩, rfl, k4⟩⟩
    · have e : how = 3 := by omega
      subst e
      rcases hb with ⟨rfl, q⟩ | ⟨rfl, q⟩
      · exact ⟨Or.inr rfl, co, Or.inl ⟨q, rfl, hR⟩⟩
      · exact ⟨Or.inl rfl, co, Or.inr ⟨q, rfl⟩⟩
    · have e : how = 4 := by omega
      subst e
      rcases hb with ⟨rfl, q⟩ | ⟨rfl, q⟩
      · have un := T.v1 q
        refine ⟨fun z => absurd z (by decide), fun _ => ⟨_, c_leastOf hG ht (by decide) hR F n3 un 0, ?_⟩⟩
        rintro y m2 ⟨k1, p, rfl, k2, -⟩
        have k2 := k2 rfl
        have pn := k2.1
        have co2 := co.tr (COut.F k1)
        rw [i_neq (by omega) hv]
        refine ⟨fun z => ⟨co2, Or.inr ⟨fun y => z (k2.uq y.2), rfl⟩⟩, fun z => ?_⟩
        subst z
        exact ⟨co2, Or.inl ⟨⟨q, k2⟩, rfl, hR.eq' (k1 330 (by decide) (by decide) (by decide))⟩⟩
      · exact ⟨fun _ => ⟨co, Or.inr ⟨fun y => q y.1, rfl⟩⟩, fun z => absurd rfl z⟩
    · have e : how = 5 := by omega
      subst e
      rcases hb with ⟨rfl, q⟩ | ⟨rfl, q⟩
      · have un := T.v1 q
        have vn := T.v2 q
        refine ⟨fun z => absurd z (by decide), fun _ => ⟨fun ne => ⟨_, c_mContract hG ht (by decide) hR F un, ?_⟩, fun e => ?_⟩⟩
        · rintro m2 ⟨T1, -, t1, ⟨-, t2, -⟩, -, -, t3⟩
          have co2 := co.tr (COut.M t3)
          have hR2 : RoAt m2 330 w E := hR.eq' (t3.1 330 (by decide) (by decide) (by decide) (by decide))
          have uin := i_in (k := u) (n := 12) (by omega) (by decide)
          have vin := i_in (k := v) (n := 12) (by omega) (by decide)
          rw [i_cl hu, i_cl hv, t2 u (by omega), t2 v (by omega)]
          have no : ∀ {p : Prop}, (p → ¬ (¬ (StC (S0 E (gc n E) u) T1).2.2 u = -9 ∧ ((StC (S0 E (gc n E) u) T1).2.2 v = -9 ∨ ¬ (StC (S0 E (gc n E) u) T1).2.2 v ≤ (StC (S0 E (gc n E) u) T1).2.2 u))) → p → ¬ cmdOk n E 5 u v := by
            rintro p h1 h2 ⟨-, T2, f2, f3⟩
            have e := t1.uq f2
            subst e
            exact h1 h2 f3
          refine ⟨uin, fun z => ⟨co2, Or.inr ⟨no (fun z y => y.1 z) z, rfl⟩⟩, fun z => ⟨vin, fun z2 => ⟨co2, Or.inl ⟨⟨q, T1, t1, z, Or.inl z2⟩, rfl, hR2⟩⟩, fun z2 => ⟨uin, vin, fun z3 => ⟨co2, Or.inr ⟨no (fun z3 y => ?_) z3, rfl⟩⟩, fun z3 => ⟨co2, Or.inl ⟨⟨q, T1, t1, z, Or.inr z3⟩, rfl, hR2⟩⟩⟩⟩⟩
          rcases y.2 with y2 | y2
          · exact z2 y2
          · exact y2 z3
        · have e := (i_neq hu hv).mp e
          subst e
          refine ⟨co, Or.inr ⟨?_, rfl⟩⟩
          rintro ⟨-, T2, f2, f3, f4 | f4⟩
          · exact f3 f4
          · exact f4 (by rw [i_le]; omega)
      · exact ⟨fun _ => ⟨co, Or.inr ⟨fun y => q y.1, rfl⟩⟩, fun z => absurd rfl z⟩
  refine ⟨_, c_isVertex hG h3 F.1.1 hn _, ?_⟩
  rintro y m ⟨rfl, rfl⟩
  by_cases qu : u < n
  · rw [if_pos (vtx qu hn)]
    refine ⟨fun z => absurd z (by decide), fun _ => ⟨_, c_isVertex hG h3 F.1.1 hn _, ?_⟩⟩
    rintro y m ⟨rfl, rfl⟩
    by_cases qv : v < n
    · rw [if_pos (vtx qv hn)]
      refine ⟨fun z => absurd z (by decide), fun _ => ⟨_, c_isOneTree hG ht h F qu (by omega), ?_⟩⟩
      rintro y m2 ⟨k1, rfl⟩
      exact jn (fun q => key m2 0 k1 (Or.inr ⟨rfl, q⟩)) (fun q => key m2 1 k1 (Or.inl ⟨rfl, q⟩))
    · rw [if_neg (fun z => qv (by have := z.2; rw [i_nI hv] at this; omega))]
      exact ⟨fun _ => key _ 0 (fun _ _ _ => rfl) (Or.inr ⟨rfl, fun z => qv (T.v2 z)⟩), fun z => absurd rfl z⟩
  · rw [if_neg (fun z => qu (by have := z.2; rw [i_nI hu] at this; omega))]
    exact ⟨fun _ => key _ 0 (fun _ _ _ => rfl) (Or.inr ⟨rfl, fun z => qu (T.v1 z)⟩), fun z => absurd rfl z⟩
end KM
