/-! forests: joined, far and near are told by the edges; a linked edge counts one; calls that succeed -/
section TU
variable {V : Nat → Prop} {W : Nat → Nat → Nat} {c c' : Nat → Nat → Prop} {D D' : Nat → Nat → Nat}
theorem TR.dle (h : TR V W c D) (g : TR V W c' D') : ∀ (k : Nat) {x y : Nat}, D x y ≤ k → c x y → c' x y ∧ D' x y ≤ D x y := by
  intro k
  induction k with
  | zero =>
    intro x y hk q
    have e := h.d00 q (by omega)
    subst e
    exact ⟨g.rf (h.v1 q), by rw [g.d0 (h.v1 q)]; omega⟩
  | succ k ih =>
    intro x y hk q
    by_cases e : x = y
    · subst e
      exact ⟨g.rf (h.v1 q), by rw [g.d0 (h.v1 q)]; omega⟩
    · obtain ⟨z, z1, z2⟩ := h.a5 q e
      have cz : c z y := h.tr (h.sy (h.ed z1)) q
      obtain ⟨i1, i2⟩ := ih (x := z) (y := y) (by omega) cz
      have t := g.tri' (g.ed z1) i1
      rw [g.de z1] at t
      exact ⟨g.tr (g.ed z1) i1, by omega⟩
theorem TR.uq (h : TR V W c D) (g : TR V W c' D') (x y : Nat) : (c x y ↔ c' x y) ∧ (c x y → D x y = D' x y) :=
  ⟨⟨fun q => (h.dle g _ (Nat.le_refl _) q).1, fun q => (g.dle h _ (Nat.le_refl _) q).1⟩, fun q => Nat.le_antisymm (g.dle h _ (Nat.le_refl _) (h.dle g _ (Nat.le_refl _) q).1).2 (h.dle g _ (Nat.le_refl _) q).2⟩
end TU
section GU
variable {n : Nat} {w w' : Nat → Nat} {E : Nat → Nat → Nat} {c c' : Nat → Nat → Prop} {D D' H H' : Nat → Nat → Nat}
theorem Fst.uqc (F : Fst n w E c D H) (F' : Fst n w' E c' D' H') (x y : Nat) : c x y ↔ c' x y := (F.tD.uq F'.tD x y).1
theorem Fst.uqd (F : Fst n w E c D H) (F' : Fst n w' E c' D' H') {x y : Nat} (q : c x y) : D x y = D' x y := (F.tD.uq F'.tD x y).2 q
theorem updE_sym (E : Nat → Nat → Nat) (u v k : Nat) : updE E u v k = updE E v u k := by
  funext a b
  unfold updE
  by_cases q : (a = u ∧ b = v) ∨ (a = v ∧ b = u)
  · rw [if_pos q, if_pos (Or.symm q)]
  · rw [if_neg q, if_neg (fun z => q (Or.symm z))]
theorem updE_at (E : Nat → Nat → Nat) (u v k : Nat) : updE E u v k u v = k := if_pos (Or.inl ⟨rfl, rfl⟩)
theorem updE_ta (E : Nat → Nat → Nat) (u v k : Nat) : updE E u v k v u = k := if_pos (Or.inr ⟨rfl, rfl⟩)
/-- an edge that was none is linked and cut again -/
theorem updE_back {u v k : Nat} (h1 : E u v = 0) (h2 : E v u = 0) : updE (updE E u v k) v u 0 = E := by
  funext a b
  unfold updE
  by_cases q : (a = v ∧ b = u) ∨ (a = u ∧ b = v)
  · rw [if_pos q]
    rcases q with ⟨rfl, rfl⟩ | ⟨rfl, rfl⟩
    · exact h2.symm
    · exact h1.symm
  · rw [if_neg q, if_neg (fun z => q (Or.symm z))]
theorem cntR_upd {a b k : Nat} (hab : a < b) (h0 : E a b = 0) (hk : 0 < k) (r : Nat) : ∀ m, cntR (updE E a b k) r m = cntR E r m + if r = a ∧ b < m then 1 else 0
  | 0 => by
    have e : ¬ (r = a ∧ b < 0) := fun z => absurd z.2 (Nat.not_lt_zero _)
    rw [if_neg e]
    rfl
  | m + 1 => by
    have f : (if r = a ∧ b < m then 1 else 0) + (if r < m ∧ 0 < updE E a b k r m then 1 else 0) = (if r < m ∧ 0 < E r m then 1 else 0) + (if r = a ∧ b < m + 1 then 1 else 0) := by
      by_cases c1 : r = a ∧ m = b
      · obtain ⟨rfl, rfl⟩ := c1
        have e1 : ¬ (r = r ∧ m < m) := fun z => absurd z.2 (Nat.lt_irrefl _)
        have e2 : r < m ∧ 0 < updE E r m k r m := ⟨hab, by rw [updE_at]; exact hk⟩
        have e3 : ¬ (r < m ∧ 0 < E r m) := fun z => by rw [h0] at z; exact absurd z.2 (Nat.lt_irrefl _)
        have e4 : r = r ∧ m < m + 1 := ⟨rfl, Nat.lt_succ_self _⟩
        rw [if_neg e1, if_pos e2, if_neg e3, if_pos e4]
      · have e : r < m → updE E a b k r m = E r m := fun z => if_neg (by omega)
        have e2 : (r < m ∧ 0 < updE E a b k r m) ↔ (r < m ∧ 0 < E r m) := ⟨fun z => ⟨z.1, by rw [← e z.1]; exact z.2⟩, fun z => ⟨z.1, by rw [e z.1]; exact z.2⟩⟩
        have e3 : (r = a ∧ b < m + 1) ↔ (r = a ∧ b < m) := ⟨fun z => ⟨z.1, by have := z.1; omega⟩, fun z => ⟨z.1, by omega⟩⟩
        simp only [e2, e3]
        omega
    show cntR (updE E a b k) r m + (if r < m ∧ 0 < updE E a b k r m then 1 else 0) = (cntR E r m + if r < m ∧ 0 < E r m then 1 else 0) + _
    rw [cntR_upd hab h0 hk r m]
    omega
theorem cntE_upd {a b k : Nat} (hab : a < b) (hb : b < n) (h0 : E a b = 0) (hk : 0 < k) : ∀ m, cntE (updE E a b k) n m = cntE E n m + if a < m then 1 else 0
  | 0 => by
    rw [if_neg (Nat.not_lt_zero a)]
    rfl
  | m + 1 => by
    have f : (if a < m then 1 else 0) + (if m = a ∧ b < n then 1 else 0) = (if a < m + 1 then 1 else 0) := by
      by_cases c1 : m = a
      · have e1 : ¬ a < m := by omega
        have e2 : a < m + 1 := by omega
        rw [if_neg e1, if_pos ⟨c1, hb⟩, if_pos e2]
      · have e3 : (a < m + 1) ↔ (a < m) := by omega
        have e4 : ¬ (m = a ∧ b < n) := fun z => c1 z.1
        rw [if_neg e4]
        simp only [e3, Nat.add_zero]
    show cntE (updE E a b k) n m + cntR (updE E a b k) m n = (cntE E n m + cntR E m n) + _
    rw [cntE_upd hab hb h0 hk m, cntR_upd hab h0 hk m n]
    omega
theorem cnt_link {u v k : Nat} (hu : u < n) (hv : v < n) (hne : u ≠ v) (h1 : E u v = 0) (h2 : E v u = 0) (hk : 0 < k) : cntE (updE E u v k) n n = cntE E n n + 1 := by
  rcases Nat.lt_or_gt_of_ne hne with q | q
  · rw [cntE_upd q hv h1 hk, if_pos hu]
  · rw [updE_sym, cntE_upd q hu h2 hk, if_pos hv]
end GU
section OK
variable {l : Launch} {G : Gx} {mem m m' : Mem} {S : Sta} {n i j k : Nat}
theorem o_link (hG : Mn G) (I : At mem S) (hi : i < S.1) (hj : j < S.1) (h1 : 1 ≤ k) (h2 : k ≤ 99) (hc : ¬ gc S.1 S.2.1.2 i j) : CtI l M_X6_link G [.ref (gA G 0), .int (nI i), .int (nI j), .int (nI k)] mem (fun r m => r = nI (cntE (updE S.2.1.2 i j k) S.1 S.1) ∧ At m (acted S (S.2.1.1, updE S.2.1.2 i j k))) := by
  have hn := I.n12
  refine (a_link hG I _ _ _).mono ?_
  rintro r m (⟨k1, k2, -⟩ | ⟨i', j', k', ⟨g1, g2, e1, e2, e3, g3, g4, -⟩, k2, k3⟩)
  · exact absurd ((k2.ok (by rw [i_nI (by omega)]; omega) (by omega) (by omega) hn).mpr ⟨hi, hj, hc⟩) k1
  · have e1 := nI_inj (by omega) (by omega) e1
    have e2 := nI_inj (by omega) (by omega) e2
    have e3 := nI_inj (by omega) (by omega) e3
    subst e1; subst e2; subst e3
    exact ⟨k2, k3⟩
theorem o_cut (hG : Mn G) (I : At mem S) (hi : i < S.1) (hj : j < S.1) (hc : 0 < S.2.1.2 i j) : CtI l M_X6_cut G [.ref (gA G 0), .int (nI i), .int (nI j)] mem (fun r m => r = nI (S.2.1.2 i j) ∧ At m (acted S (S.2.1.1, updE S.2.1.2 i j 0))) := by
  have hn := I.n12
  refine (a_cut hG I _ _).mono ?_
  rintro r m (⟨k1, k2, -⟩ | ⟨i', j', ⟨g1, g2, e1, e2, -⟩, k2, k3⟩)
  · exact absurd ((k2.ok (by decide) (by omega) (by omega) hn).mpr ⟨hi, hj, hc⟩) k1
  · have e1 := nI_inj (by omega) (by omega) e1
    have e2 := nI_inj (by omega) (by omega) e2
    subst e1; subst e2
    exact ⟨k2, k3⟩
theorem o_setEdgeWeight (hG : Mn G) (I : At mem S) (hi : i < S.1) (hj : j < S.1) (h1 : 1 ≤ k) (h2 : k ≤ 99) (hc : 0 < S.2.1.2 i j) : CtI l M_X6_setEdgeWeight G [.ref (gA G 0), .int (nI i), .int (nI j), .int (nI k)] mem (fun r m => r = nI (S.2.1.2 i j) ∧ At m (acted S (S.2.1.1, updE S.2.1.2 i j k))) := by
  have hn := I.n12
  refine (a_setEdgeWeight hG I _ _ _).mono ?_
  rintro r m (⟨k1, k2, -⟩ | ⟨i', j', k', ⟨g1, g2, e1, e2, e3, g3, g4, -⟩, k2, k3⟩)
  · exact absurd ((k2.ok (by rw [i_nI (by omega)]; omega) (by omega) (by omega) hn).mpr ⟨hi, hj, hc⟩) k1
  · have e1 := nI_inj (by omega) (by omega) e1
    have e2 := nI_inj (by omega) (by omega) e2
    have e3 := nI_inj (by omega) (by omega) e3
    subst e1; subst e2; subst e3
    exact ⟨k2, k3⟩
theorem o_setVertexWeight (hG : Mn G) (I : At mem S) (hi : i < S.1) (h2 : k ≤ 99) : CtI l M_X6_setVertexWeight G [.ref (gA G 0), .int (nI i), .int (nI k)] mem (fun r m => r = nI (S.2.1.1 i) ∧ At m (acted S (updW S.2.1.1 i k, S.2.1.2))) := by
  have hn := I.n12
  refine (a_setVertexWeight hG I _ _).mono ?_
  rintro r m (⟨⟨k1, -⟩ | ⟨-, k1, -⟩, -⟩ | ⟨i', k', ⟨g1, e1, e2, g2⟩, k2, k3⟩)
  · exact absurd (Vx.of hi hn) k1
  · exact absurd (by rw [i_nI (by omega)]; omega) k1
  · have e1 := nI_inj (by omega) (by omega) e1
    have e2 := nI_inj (by omega) (by omega) e2
    subst e1; subst e2
    exact ⟨k2, k3⟩
theorem o_undo {y : Fw} {t : List Fw} (hG : Mn G) (I : At mem S) (h : S.2.2.1 = y :: t) : CtI l M_X6_undo G [.ref (gA G 0)] mem (fun r m => ¬ r < 0 ∧ At m (S.1, y, t, S.2.2.2)) := by
  obtain ⟨nx, -, -, -, hl, -⟩ := I.2.1
  refine (a_undo hG I).mono ?_
  rintro r m (⟨e, -⟩ | ⟨y', t', e, k2, k3⟩)
  · rw [h] at e; cases e
  · rw [h] at e hl
    cases e
    refine ⟨?_, k3⟩
    rw [List.length_cons] at hl
    rw [k2, i_lt, i_nI (by omega), i_0]
    omega
theorem o_undo0 (hG : Mn G) (I : At mem S) (h : S.2.2.1 = []) : CtI l M_X6_undo G [.ref (gA G 0)] mem (fun r m => r = -3 ∧ At m S) := by
  refine (a_undo hG I).mono ?_
  rintro r m (⟨-, k2, k3⟩ | ⟨y', t', e, -⟩)
  · exact ⟨k2, k3⟩
  · rw [h] at e; cases e
theorem o_save {s : Nat} (hG : Mn G) (I : At mem S) (hs : s < 2) : CtI l M_X6_save G [.ref (gA G 0), .int (nI s)] mem (fun r m => r = nI (cntE S.2.1.2 S.1 S.1) ∧ At m (savedS S s)) := by
  refine (a_save hG I _).mono ?_
  rintro r m (⟨k1, -⟩ | ⟨s', h1, e, k2, k3⟩)
  · exact absurd (by rw [i_nI (by omega)]; omega) k1
  · have e := nI_inj (by omega) (by omega) e
    subst e
    exact ⟨k2, k3⟩
theorem o_restore {s : Nat} {y : Fw} (hG : Mn G) (I : At mem S) (hs : s < 2) (h : S.2.2.2.1 s = some y) : CtI l M_X6_restore G [.ref (gA G 0), .int (nI s)] mem (fun r m => r = nI (cntE y.2 S.1 S.1) ∧ At m (S.1, y, [], S.2.2.2)) := by
  refine (a_restore hG I _).mono ?_
  rintro r m (⟨k1, -⟩ | ⟨s', h1, e, ⟨k1, -⟩ | ⟨y', k1, k2, k3⟩⟩)
  · exact absurd (by rw [i_nI (by omega)]; omega) k1
  · rw [← nI_inj (by omega) (by omega) e, h] at k1; cases k1
  · rw [← nI_inj (by omega) (by omega) e, h] at k1; cases k1; exact ⟨k2, k3⟩
/-- a query, its answer, and the state as it was -/
theorem qK {M : MTy} {As : List Value} {A : Int32 → Prop} (I : At mem S) (h : CtI l M G As mem (fun r m => Keep mem m ∧ A r)) : CtI l M G As mem (fun r m => A r ∧ At m S) := h.mono fun _ _ k => ⟨k.2, I.keep k.1⟩
theorem tree_iff {r r' : Int32} {x : Fw} (g : Gd n x.2) (hi : i < n) (h : aTree n x i r) (h' : aTree n x j r') : r = r' ↔ gc n x.2 i j := by
  obtain ⟨a, a1, rfl, a2, a3⟩ := h
  obtain ⟨b, b1, rfl, b2, b3⟩ := h'
  have T := g.tD
  have hn := g.1.2
  refine ⟨fun e => ?_, fun q => ?_⟩
  · have e := nI_inj (by omega) (by omega) e
    subst e
    exact T.tr a2 (T.sy b2)
  · rw [least_uq (p := gc n x.2 i) a2 a3 (T.tr q b2) (fun y hy z => b3 y hy (T.tr (T.sy q) z))]
end OK
