/-! queries: what each answers, out of the forest alone -/
def OneAns (n : Nat) (A : Nat → Int32 → Prop) (v r : Int32) : Prop := (∃ k, k < n ∧ v = nI k ∧ A k r) ∨ (¬ Vx n v ∧ r = -1)
theorem OneAns.of {n k : Nat} {A : Nat → Int32 → Prop} {r : Int32} (h : OneAns n A (nI k) r) (hk : k < n) (hn : n ≤ 12) : A k r := by
  rcases h with ⟨j, hj, e, h⟩ | ⟨h, -⟩
  · have := (i_neq (by omega) (by omega)).mp e
    subst this
    exact h
  · exact absurd (Vx.of hk hn) h
theorem OneAns.no {n : Nat} {A : Nat → Int32 → Prop} {v r : Int32} (h : OneAns n A v r) (hv : ¬ Vx n v) (hn : n ≤ 12) : r = -1 := by
  rcases h with ⟨j, hj, e, h⟩ | ⟨-, h⟩
  · exact absurd (by rw [e]; exact Vx.of hj hn) hv
  · exact h
theorem OneAns.uq {n : Nat} {A : Nat → Int32 → Prop} {v r r' : Int32} (hn : n ≤ 12) (hA : ∀ k, k < n → A k r → A k r' → r = r') (h : OneAns n A v r) (g : OneAns n A v r') : r = r' := by
  by_cases q : Vx n v
  · obtain ⟨k, hk, rfl⟩ := q.ex
    exact hA k hk (h.of hk hn) (g.of hk hn)
  · rw [h.no q hn, g.no q hn]
def aVw (n : Nat) (x : Fw) (k : Nat) (r : Int32) : Prop := r = nI (x.1 k)
def aTree (n : Nat) (x : Fw) (k : Nat) (r : Int32) : Prop := ∃ q, q < n ∧ r = nI q ∧ gc n x.2 k q ∧ ∀ y, y < q → ¬ gc n x.2 k y
def aEcc (n : Nat) (x : Fw) (k : Nat) (r : Int32) : Prop := r = nI (Ecc n (gc n x.2) (gd n x.2) k)
def aDia (n : Nat) (x : Fw) (k : Nat) (r : Int32) : Prop := r = nI (mxO (gc n x.2 k) (Ecc n (gc n x.2) (gd n x.2)) n)
def aCen (n : Nat) (x : Fw) (k : Nat) (r : Int32) : Prop := ∃ q, r = nI q ∧ AMin (gc n x.2 k) (Ecc n (gc n x.2) (gd n x.2)) n q
def aMed (n : Nat) (x : Fw) (k : Nat) (r : Int32) : Prop := ∃ q, r = nI q ∧ AMin (gc n x.2 k) (Cst n x.1 (gc n x.2) (gd n x.2)) n q
def aCst (n : Nat) (x : Fw) (k : Nat) (r : Int32) : Prop := r = nI (Cst n x.1 (gc n x.2) (gd n x.2) k)
def aRnd (n : Nat) (x : Fw) (k : Nat) (r : Int32) : Prop := ∃ T, T ≤ 11 ∧ Fin1 (S0 x.2 (gc n x.2) k) T ∧ r = nI T
def aRem (n : Nat) (x : Fw) (k : Nat) (r : Int32) : Prop := ∃ T, T ≤ 11 ∧ Fin1 (S0 x.2 (gc n x.2) k) T ∧ r = (StC (S0 x.2 (gc n x.2) k) T).2.2 k
def aSur (n : Nat) (x : Fw) (k : Nat) (r : Int32) : Prop := ∃ T z, T ≤ 11 ∧ Fin1 (S0 x.2 (gc n x.2) k) T ∧ r = nI z ∧ z < n ∧ (StC (S0 x.2 (gc n x.2) k) T).1 z = true ∧ ∀ y, y < z → ¬ (StC (S0 x.2 (gc n x.2) k) T).1 y = true
def aBal (n : Nat) (x : Fw) (k : Nat) (r : Int32) : Prop := BalAns n x.1 x.2 (gc n x.2) (gd n x.2) k r
section QY
variable {l : Launch} {G : Gx} {mem : Mem} {S : Sta} {n k : Nat} {x : Fw} {r r' : Int32}
theorem least_uq {p : Nat → Prop} {a b : Nat} (h : p a) (h1 : ∀ y, y < a → ¬ p y) (g : p b) (g1 : ∀ y, y < b → ¬ p y) : a = b := by
  rcases Nat.lt_trichotomy a b with z | z | z
  · exact absurd h (g1 a z)
  · exact z
  · exact absurd g (h1 b z)
theorem aVw.uq (h : aVw n x k r) (g : aVw n x k r') : r = r' := h.trans g.symm
theorem aEcc.uq (h : aEcc n x k r) (g : aEcc n x k r') : r = r' := h.trans g.symm
theorem aDia.uq (h : aDia n x k r) (g : aDia n x k r') : r = r' := h.trans g.symm
theorem aCst.uq (h : aCst n x k r) (g : aCst n x k r') : r = r' := h.trans g.symm
theorem aTree.uq (h : aTree n x k r) (g : aTree n x k r') : r = r' := by
  obtain ⟨a, -, rfl, h1, h2⟩ := h
  obtain ⟨b, -, rfl, g1, g2⟩ := g
  rw [least_uq h1 h2 g1 g2]
theorem aCen.uq (h : aCen n x k r) (g : aCen n x k r') : r = r' := by
  obtain ⟨a, rfl, h1⟩ := h
  obtain ⟨b, rfl, g1⟩ := g
  rw [h1.uq g1]
theorem aMed.uq (h : aMed n x k r) (g : aMed n x k r') : r = r' := by
  obtain ⟨a, rfl, h1⟩ := h
  obtain ⟨b, rfl, g1⟩ := g
  rw [h1.uq g1]
theorem aRnd.uq (h : aRnd n x k r) (g : aRnd n x k r') : r = r' := by
  obtain ⟨a, -, h1, rfl⟩ := h
  obtain ⟨b, -, g1, rfl⟩ := g
  rw [h1.uq g1]
theorem aRem.uq (h : aRem n x k r) (g : aRem n x k r') : r = r' := by
  obtain ⟨a, -, h1, rfl⟩ := h
  obtain ⟨b, -, g1, rfl⟩ := g
  rw [h1.uq g1]
theorem aSur.uq (h : aSur n x k r) (g : aSur n x k r') : r = r' := by
  obtain ⟨a, z, -, h1, rfl, -, h2, h3⟩ := h
  obtain ⟨b, z', -, g1, rfl, -, g2, g3⟩ := g
  have e := h1.uq g1
  subst e
  rw [least_uq h2 h3 g2 g3]
theorem aBal.uq (h : aBal n x k r) (g : aBal n x k r') : r = r' := BalAns.uq h g
theorem At.ex (I : At mem S) : ∃ w', 1 ≤ S.1 ∧ S.1 ≤ 12 ∧ FoAt mem 1 S.1 w' S.2.1.2 ∧ (∀ v, v < S.1 → w' v = S.2.1.1 v) ∧ (∀ v, v < S.1 → w' v ≤ 99) ∧ Gd S.1 S.2.1.2 := by
  obtain ⟨⟨w', a1, a2, a3, a4⟩, -⟩ := I
  exact ⟨w', a4.1.1, a4.1.2, a1, a2, fun v hv => by rw [a2 v hv]; exact a3 v hv, a4⟩
theorem q_vertexWeight (hG : Mn G) (I : At mem S) (v : Int32) : CtI l M_X6_vertexWeight G [.ref (gA G 0), .int v] mem (fun r m => Keep mem m ∧ OneAns S.1 (aVw S.1 S.2.1) v r) := by
  obtain ⟨w', n1, hn, hf, hw, h9, g⟩ := I.ex
  have Fc := g.f h9
  refine CtI_of (by decide) (Nat.le_of_ble_eq_true rfl) rfl (t_X6_vertexWeight_0 hG _ mem ⟨_, c_hasVertex (f_1 hG) hf hn v, ?_⟩)
  rintro r m ⟨rfl, rfl⟩
  by_cases q : Vx S.1 v
  · rw [if_pos q]
    obtain ⟨k, hk, rfl⟩ := q.ex
    refine pos' ?_
    refine ⟨_, c_weightOf (f_1 hG) hf hn hk, ?_⟩
    rintro r m ⟨rfl, rfl⟩
    exact ⟨Keep.rf, Or.inl ⟨k, hk, rfl, congrArg nI (hw k hk)⟩⟩
  · rw [if_neg q]
    exact neg_ ⟨Keep.rf, Or.inr ⟨q, rfl⟩⟩
theorem q_treeOf (hG : Mn G) (I : At mem S) (v : Int32) : CtI l M_X6_treeOf G [.ref (gA G 0), .int v] mem (fun r m => Keep mem m ∧ OneAns S.1 (aTree S.1 S.2.1) v r) := by
  obtain ⟨w', n1, hn, hf, hw, h9, g⟩ := I.ex
  have Fc := g.f h9
  refine CtI_of (by decide) (Nat.le_of_ble_eq_true rfl) rfl (t_X6_treeOf_0 hG _ mem ⟨_, c_hasVertex (f_1 hG) hf hn v, ?_⟩)
  rintro r m ⟨rfl, rfl⟩
  by_cases q : Vx S.1 v
  · rw [if_pos q]
    obtain ⟨k, hk, rfl⟩ := q.ex
    refine pos_ ?_
    refine ⟨_, c_measure (s_16 hG) hf Fc, ?_⟩
    rintro m1 ⟨k1, k2⟩
    have hf1 := hf.out k2 (by decide)
    have K := Keep.o k2 (by decide) (by decide)
    refine ⟨_, c_smallestJoined (s_16 hG) k1 Fc hk, ?_⟩
    rintro r m3 ⟨rfl, p, p1, rfl, p2, p3⟩
    exact ⟨K, Or.inl ⟨k, hk, rfl, ⟨p, p1, rfl, p2, p3⟩⟩⟩
  · rw [if_neg q]
    exact neg' ⟨Keep.rf, Or.inr ⟨q, rfl⟩⟩
theorem q_eccentricity (hG : Mn G) (I : At mem S) (v : Int32) : CtI l M_X6_eccentricity G [.ref (gA G 0), .int v] mem (fun r m => Keep mem m ∧ OneAns S.1 (aEcc S.1 S.2.1) v r) := by
  obtain ⟨w', n1, hn, hf, hw, h9, g⟩ := I.ex
  have Fc := g.f h9
  refine CtI_of (by decide) (Nat.le_of_ble_eq_true rfl) rfl (t_X6_eccentricity_0 hG _ mem ⟨_, c_hasVertex (f_1 hG) hf hn v, ?_⟩)
  rintro r m ⟨rfl, rfl⟩
  by_cases q : Vx S.1 v
  · rw [if_pos q]
    obtain ⟨k, hk, rfl⟩ := q.ex
    refine pos_ ?_
    refine ⟨_, c_measure (s_16 hG) hf Fc, ?_⟩
    rintro m1 ⟨k1, k2⟩
    have hf1 := hf.out k2 (by decide)
    have K := Keep.o k2 (by decide) (by decide)
    refine ⟨_, c_greatestFrom (s_16 hG) k1 Fc hk, ?_⟩
    rintro r m3 ⟨rfl, rfl⟩
    exact ⟨K, Or.inl ⟨k, hk, rfl, rfl⟩⟩
  · rw [if_neg q]
    exact neg' ⟨Keep.rf, Or.inr ⟨q, rfl⟩⟩
theorem q_diameter (hG : Mn G) (I : At mem S) (v : Int32) : CtI l M_X6_diameter G [.ref (gA G 0), .int v] mem (fun r m => Keep mem m ∧ OneAns S.1 (aDia S.1 S.2.1) v r) := by
  obtain ⟨w', n1, hn, hf, hw, h9, g⟩ := I.ex
  have Fc := g.f h9
  refine CtI_of (by decide) (Nat.le_of_ble_eq_true rfl) rfl (t_X6_diameter_0 hG _ mem ⟨_, c_hasVertex (f_1 hG) hf hn v, ?_⟩)
  rintro r m ⟨rfl, rfl⟩
  by_cases q : Vx S.1 v
  · rw [if_pos q]
    obtain ⟨k, hk, rfl⟩ := q.ex
    refine pos_ ?_
    refine ⟨_, c_measure (s_16 hG) hf Fc, ?_⟩
    rintro m1 ⟨k1, k2⟩
    have hf1 := hf.out k2 (by decide)
    have K := Keep.o k2 (by decide) (by decide)
    refine ⟨_, c_widthAround (s_16 hG) k1 Fc hk, ?_⟩
    rintro r m3 ⟨rfl, rfl⟩
    exact ⟨K, Or.inl ⟨k, hk, rfl, rfl⟩⟩
  · rw [if_neg q]
    exact neg' ⟨Keep.rf, Or.inr ⟨q, rfl⟩⟩
theorem q_centre (hG : Mn G) (I : At mem S) (v : Int32) : CtI l M_X6_centre G [.ref (gA G 0), .int v] mem (fun r m => Keep mem m ∧ OneAns S.1 (aCen S.1 S.2.1) v r) := by
  obtain ⟨w', n1, hn, hf, hw, h9, g⟩ := I.ex
  have Fc := g.f h9
  refine CtI_of (by decide) (Nat.le_of_ble_eq_true rfl) rfl (t_X6_centre_0 hG _ mem ⟨_, c_hasVertex (f_1 hG) hf hn v, ?_⟩)
  rintro r m ⟨rfl, rfl⟩
  by_cases q : Vx S.1 v
  · rw [if_pos q]
    obtain ⟨k, hk, rfl⟩ := q.ex
    refine pos_ ?_
    refine ⟨_, c_measure (s_16 hG) hf Fc, ?_⟩
    rintro m1 ⟨k1, k2⟩
    have hf1 := hf.out k2 (by decide)
    have K := Keep.o k2 (by decide) (by decide)
    refine ⟨_, c_middleOf (s_16 hG) k1 Fc hk, ?_⟩
    rintro r m3 ⟨rfl, p, rfl, hp⟩
    exact ⟨K, Or.inl ⟨k, hk, rfl, ⟨p, rfl, hp⟩⟩⟩
  · rw [if_neg q]
    exact neg' ⟨Keep.rf, Or.inr ⟨q, rfl⟩⟩
theorem q_median (hG : Mn G) (I : At mem S) (v : Int32) : CtI l M_X6_median G [.ref (gA G 0), .int v] mem (fun r m => Keep mem m ∧ OneAns S.1 (aMed S.1 S.2.1) v r) := by
  obtain ⟨w', n1, hn, hf, hw, h9, g⟩ := I.ex
  have Fc := g.f h9
  refine CtI_of (by decide) (Nat.le_of_ble_eq_true rfl) rfl (t_X6_median_0 hG _ mem ⟨_, c_hasVertex (f_1 hG) hf hn v, ?_⟩)
  rintro r m ⟨rfl, rfl⟩
  by_cases q : Vx S.1 v
  · rw [if_pos q]
    obtain ⟨k, hk, rfl⟩ := q.ex
    refine pos_ ?_
    refine ⟨_, c_measure (s_16 hG) hf Fc, ?_⟩
    rintro m1 ⟨k1, k2⟩
    have hf1 := hf.out k2 (by decide)
    have K := Keep.o k2 (by decide) (by decide)
    refine ⟨_, c_cheapestOf (s_16 hG) k1 hf1 Fc hk, ?_⟩
    rintro r m3 ⟨rfl, p, rfl, hp⟩
    rw [Cst_w hw] at hp
    exact ⟨K, Or.inl ⟨k, hk, rfl, ⟨p, rfl, hp⟩⟩⟩
  · rw [if_neg q]
    exact neg' ⟨Keep.rf, Or.inr ⟨q, rfl⟩⟩
theorem q_cost (hG : Mn G) (I : At mem S) (v : Int32) : CtI l M_X6_cost G [.ref (gA G 0), .int v] mem (fun r m => Keep mem m ∧ OneAns S.1 (aCst S.1 S.2.1) v r) := by
  obtain ⟨w', n1, hn, hf, hw, h9, g⟩ := I.ex
  have Fc := g.f h9
  refine CtI_of (by decide) (Nat.le_of_ble_eq_true rfl) rfl (t_X6_cost_0 hG _ mem ⟨_, c_hasVertex (f_1 hG) hf hn v, ?_⟩)
  rintro r m ⟨rfl, rfl⟩
  by_cases q : Vx S.1 v
  · rw [if_pos q]
    obtain ⟨k, hk, rfl⟩ := q.ex
    refine pos_ ?_
    refine ⟨_, c_measure (s_16 hG) hf Fc, ?_⟩
    rintro m1 ⟨k1, k2⟩
    have hf1 := hf.out k2 (by decide)
    have K := Keep.o k2 (by decide) (by decide)
    refine ⟨_, c_priceOf (s_16 hG) k1 hf1 Fc hk, ?_⟩
    rintro r m3 ⟨rfl, rfl⟩
    rw [Cst_w hw]
    exact ⟨K, Or.inl ⟨k, hk, rfl, rfl⟩⟩
  · rw [if_neg q]
    exact neg' ⟨Keep.rf, Or.inr ⟨q, rfl⟩⟩
theorem q_rounds (hG : Mn G) (I : At mem S) (v : Int32) : CtI l M_X6_rounds G [.ref (gA G 0), .int v] mem (fun r m => Keep mem m ∧ OneAns S.1 (aRnd S.1 S.2.1) v r) := by
  obtain ⟨w', n1, hn, hf, hw, h9, g⟩ := I.ex
  have Fc := g.f h9
  refine CtI_of (by decide) (Nat.le_of_ble_eq_true rfl) rfl (t_X6_rounds_0 hG _ mem ⟨_, c_hasVertex (f_1 hG) hf hn v, ?_⟩)
  rintro r m ⟨rfl, rfl⟩
  by_cases q : Vx S.1 v
  · rw [if_pos q]
    obtain ⟨k, hk, rfl⟩ := q.ex
    refine pos_ ?_
    refine ⟨_, c_contract hG (f_1 hG) (by decide) hf Fc hk, ?_⟩
    rintro m1 ⟨T1, t0, t1, t2, t3, o⟩
    have K := Keep.o o (by decide) (by decide)
    refine ⟨_, c_ctRounds hG, ?_⟩
    rintro r m3 ⟨rfl, rfl⟩
    rw [t3]
    exact ⟨K, Or.inl ⟨k, hk, rfl, ⟨T1, t0, t1, rfl⟩⟩⟩
  · rw [if_neg q]
    exact neg' ⟨Keep.rf, Or.inr ⟨q, rfl⟩⟩
theorem q_removalRound (hG : Mn G) (I : At mem S) (v : Int32) : CtI l M_X6_removalRound G [.ref (gA G 0), .int v] mem (fun r m => Keep mem m ∧ OneAns S.1 (aRem S.1 S.2.1) v r) := by
  obtain ⟨w', n1, hn, hf, hw, h9, g⟩ := I.ex
  have Fc := g.f h9
  refine CtI_of (by decide) (Nat.le_of_ble_eq_true rfl) rfl (t_X6_removalRound_0 hG _ mem ⟨_, c_hasVertex (f_1 hG) hf hn v, ?_⟩)
  rintro r m ⟨rfl, rfl⟩
  by_cases q : Vx S.1 v
  · rw [if_pos q]
    obtain ⟨k, hk, rfl⟩ := q.ex
    refine pos_ ?_
    refine ⟨_, c_contract hG (f_1 hG) (by decide) hf Fc hk, ?_⟩
    rintro m1 ⟨T1, t0, t1, t2, t3, o⟩
    have K := Keep.o o (by decide) (by decide)
    refine ⟨_, c_ctRound hG t2 hn hk, ?_⟩
    rintro r m3 ⟨rfl, rfl⟩
    exact ⟨K, Or.inl ⟨k, hk, rfl, ⟨T1, t0, t1, rfl⟩⟩⟩
  · rw [if_neg q]
    exact neg' ⟨Keep.rf, Or.inr ⟨q, rfl⟩⟩
theorem q_survivor (hG : Mn G) (I : At mem S) (v : Int32) : CtI l M_X6_survivor G [.ref (gA G 0), .int v] mem (fun r m => Keep mem m ∧ OneAns S.1 (aSur S.1 S.2.1) v r) := by
  obtain ⟨w', n1, hn, hf, hw, h9, g⟩ := I.ex
  have Fc := g.f h9
  refine CtI_of (by decide) (Nat.le_of_ble_eq_true rfl) rfl (t_X6_survivor_0 hG _ mem ⟨_, c_hasVertex (f_1 hG) hf hn v, ?_⟩)
  rintro r m ⟨rfl, rfl⟩
  by_cases q : Vx S.1 v
  · rw [if_pos q]
    obtain ⟨k, hk, rfl⟩ := q.ex
    refine pos_ ?_
    refine ⟨_, c_contract hG (f_1 hG) (by decide) hf Fc hk, ?_⟩
    rintro m1 ⟨T1, t0, t1, t2, t3, o⟩
    have K := Keep.o o (by decide) (by decide)
    have tc : Tc S.1 (StC (S0 S.2.1.2 (gc S.1 S.2.1.2) k) T1) := by
      obtain ⟨T3, -, w1, w2⟩ := (Tc_S0 Fc hk).1.fin (Tc_S0 Fc hk).2
      have e := t1.uq w1
      subst e
      exact (w2 _ (Nat.le_refl _)).1
    obtain ⟨z, z1, z2⟩ : ∃ z, (StC (S0 S.2.1.2 (gc S.1 S.2.1.2) k) T1).1 z = true ∧ ∀ x, x < z → ¬ (StC (S0 S.2.1.2 (gc S.1 S.2.1.2) k) T1).1 x = true := by
      obtain ⟨T3, -, w1, w2⟩ := (Tc_S0 Fc hk).1.fin (Tc_S0 Fc hk).2
      have e := t1.uq w1
      subst e
      obtain ⟨x, x1, x2⟩ := cn_ex (w2 _ (Nat.le_refl _)).2
      obtain ⟨a, -, a2, a3⟩ := least_of (p := fun y => (StC (S0 S.2.1.2 (gc S.1 S.2.1.2) k) T1).1 y = true) x x2
      exact ⟨a, a2, a3⟩
    refine ⟨_, c_ctLast hG t2 hn (tc.2.2.1 z z1) z1 z2, ?_⟩
    rintro r m3 ⟨rfl, rfl⟩
    exact ⟨K, Or.inl ⟨k, hk, rfl, ⟨T1, z, t0, t1, rfl, tc.2.2.1 z z1, z1, z2⟩⟩⟩
  · rw [if_neg q]
    exact neg' ⟨Keep.rf, Or.inr ⟨q, rfl⟩⟩
theorem q_balancedCut (hG : Mn G) (I : At mem S) (v : Int32) : CtI l M_X6_balancedCut G [.ref (gA G 0), .int v] mem (fun r m => Keep mem m ∧ OneAns S.1 (aBal S.1 S.2.1) v r) := by
  obtain ⟨w', n1, hn, hf, hw, h9, g⟩ := I.ex
  have Fc := g.f h9
  refine CtI_of (by decide) (Nat.le_of_ble_eq_true rfl) rfl (t_X6_balancedCut_0 hG _ mem ⟨_, c_hasVertex (f_1 hG) hf hn v, ?_⟩)
  rintro r m ⟨rfl, rfl⟩
  by_cases q : Vx S.1 v
  · rw [if_pos q]
    obtain ⟨k, hk, rfl⟩ := q.ex
    refine pos_ ?_
    refine ⟨_, c_measure (s_16 hG) hf Fc, ?_⟩
    rintro m1 ⟨k1, k2⟩
    have hf1 := hf.out k2 (by decide)
    have K := Keep.o k2 (by decide) (by decide)
    refine ⟨_, c_evenestEdge (s_16 hG) k1 hf1 Fc hk, ?_⟩
    rintro r m3 ⟨rfl, hb⟩
    exact ⟨K, Or.inl ⟨k, hk, rfl, Bal_w hw hb⟩⟩
  · rw [if_neg q]
    exact neg' ⟨Keep.rf, Or.inr ⟨q, rfl⟩⟩
end QY
