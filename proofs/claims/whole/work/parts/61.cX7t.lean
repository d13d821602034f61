/-! the model: the balanced cut -/
section KM
variable {l : Launch} {G : Gx} {mem : Mem} {n : Nat} {w : Nat → Nat} {E : Nat → Nat → Nat} {c : Nat → Nat → Prop} {D H : Nat → Nat → Nat}
theorem c_weightWith (hG : Mn G) {r : Nat} (hr : Ra G r) (hr2 : r < 336) (h : RoAt mem r w E) (F : Fst n w E c D H) (h3 : mem 327 3 = nI n) {v : Nat} (hv : v < n) : CtI l M_X7_weightWith G [.ref (gA G 327), .ref (gA G r), .int (nI v)] mem (fun x m => (∀ a, a ≠ 336 → a ≠ 337 → m a = mem a) ∧ x = nI (smO (c v) w n)) := by
  have hn := F.le
  have T := F.tD
  refine CtI_of (by decide) (Nat.le_of_ble_eq_true rfl) rfl (t_X7_weightWith_0 hG hr _ mem ?_)
  refine ⟨_, c_layFar hG hr h F hv, ?_⟩
  rintro m1 ⟨a1, a2⟩
  have b3 : m1 327 3 = nI n := by rw [a1 327 (by omega) (by omega)]; exact h3
  have hR : RoAt m1 r w E := h.eq' (a1 r (by omega) (by omega))
  refine up_loop (P := fun j => XI l M_X7_weightWith G _ m1 11 [(0, .ref (gA G 327)), (1, .ref (gA G r)), (3, .int (nI (smO (c v) w j))), (4, .int (nI j))] []) (n := n) (Nat.zero_le _) ?_ ?_
  · refine t_X7_weightWith_11 hG hr _ _ m1 ?_
    exact ⟨fun _ => ⟨a1, rfl⟩, fun z => absurd (by rw [b3]; exact (i_nle (by omega) (by omega)).mpr (Nat.le_refl _)) z⟩
  · intro j _ hj ih
    refine t_X7_weightWith_11 hG hr _ _ m1 ?_
    rw [b3, i_cl (by omega), nI_1 j]
    have ex : smO (c v) w (j + 1) = smO (c v) w j + ifc (c v j) (w j) 0 := rfl
    have jin := i_in (k := j) (n := 12) (by omega) (by decide)
    refine ⟨fun z => absurd ((i_nle (by omega) (by omega)).mp z) (by omega), fun _ => ⟨jin, fun z => ⟨i_in (by omega) (by decide), ?_⟩, fun z => ?_⟩⟩
    · have q : c v j := Classical.byContradiction fun q => z ((a2 j (by omega)).2 q).1
      rw [ex, ifc_t q] at ih
      rw [hR.1 j (by omega), nI_add]
      exact ih
    · have q : ¬ c v j := fun q => i_n9 (k := D v j) (by have := F.dlt q; omega) (((a2 j (by omega)).1 q).1.symm.trans z)
      rw [ex, ifc_f q] at ih
      rw [Int32.add_zero]; exact ih
/-- only the model's second row and its distance rows may differ -/
def TOut (mem m : Mem) : Prop := ∀ a, a ≠ 330 → a ≠ 336 → a ≠ 337 → m a = mem a
theorem TOut.tr {m1 m2 m3 : Mem} (h : TOut m1 m2) (h2 : TOut m2 m3) : TOut m1 m3 := fun a a1 a2 a3 => (h2 a a1 a2 a3).trans (h a a1 a2 a3)
theorem TOut.f {m1 m2 : Mem} (h : ∀ a, a ≠ 336 → a ≠ 337 → m2 a = m1 a) : TOut m1 m2 := fun a _ a2 a3 => h a a2 a3
theorem TOut.t {m1 m2 : Mem} (h : ∀ a, a ≠ 330 → m2 a = m1 a) : TOut m1 m2 := fun a a1 _ _ => h a a1
theorem LoadA_cut (F : Fst n w E c D H) {a b : Nat} (e : 0 < E a b) : smO (fun y => c a y ∧ (c a a → (D a a < D a b ↔ D y a < D y b))) w n = LoadA n w c D a b := by
  have T := F.tD
  have ca := T.ed e
  have aa := T.rf (T.v1 ca)
  have d0 := T.d0 (T.v1 ca)
  have d1 := T.de e
  unfold LoadA
  refine smO_cong (fun x hx => ⟨fun q => ⟨T.sy q.1, (q.2 aa).mp (by omega)⟩, fun q => ⟨T.sy q.1, fun _ => ⟨fun _ => q.2, fun _ => by omega⟩⟩⟩) (fun _ _ _ => rfl)
theorem LoadB_cut (F : Fst n w E c D H) {a b : Nat} (e : 0 < E a b) : smO (fun y => c b y ∧ (c b a → (D b a < D b b ↔ D y a < D y b))) w n = LoadB n w c D a b := by
  have T := F.tD
  have ca := T.ed e
  have d0 := T.d0 (T.v2 ca)
  have d1 := T.de e
  have d2 := T.ds ca
  unfold LoadB
  refine smO_cong (fun x hx => ⟨fun q => ⟨T.tr (T.sy q.1) (T.sy ca), fun z => by have := (q.2 (T.sy ca)).mpr z; omega⟩, fun q => ⟨T.tr (T.sy ca) (T.sy q.1), fun _ => ⟨fun z => by omega, fun z => absurd z q.2⟩⟩⟩) (fun _ _ _ => rfl)
/-- the best so far, in the model -/
def BSm (n : Nat) (w : Nat → Nat) (E : Nat → Nat → Nat) (c : Nat → Nat → Prop) (D : Nat → Nat → Nat) (v K : Nat) (a b : Int32) : Prop := ((∀ x, x < K → ¬ BP E c v x) ∧ a = -9) ∨ ∃ k, a = nI k ∧ b = nI (BL n w c D k) ∧ AMin (BP E c v) (BL n w c D) K k
theorem BSm.skip {v K K' : Nat} {a b : Int32} (h : BSm n w E c D v K a b) (hk : K ≤ K') (q : ∀ x, K ≤ x → x < K' → ¬ BP E c v x) : BSm n w E c D v K' a b := by
  rcases h with ⟨a1, a2⟩ | ⟨k, a1, a2, a3⟩
  · refine Or.inl ⟨fun x hx => ?_, a2⟩
    by_cases e : x < K
    · exact a1 x e
    · exact q x (by omega) hx
  · exact Or.inr ⟨k, a1, a2, a3.skip hk q⟩
theorem c_mBal (hG : Mn G) (hr : Ra G 329) (ht : Ra G 330) (h : RoAt mem 329 w E) (F : Fst n w E c D H) (h3 : mem 327 3 = nI n) {v : Nat} (hv : v < n) : CtI l M_X7_balancedCut G [.ref (gA G 327), .int (nI v)] mem (fun r m => TOut mem m ∧ BalAns n w E c D v r) := by
  have hn := F.le
  have T := F.tD
  refine CtI_of (by decide) (Nat.le_of_ble_eq_true rfl) rfl (t_X7_balancedCut_0 hG _ mem ?_)
  refine ⟨_, c_isVertex' hG h3 hn hv, ?_⟩
  rintro r m0 ⟨rfl, rfl⟩
  refine ⟨fun _ => ?_, fun z => absurd z (by decide)⟩
  refine up_loop (P := fun x => ∀ (m : Mem) (a b : Int32), TOut m0 m → BSm n w E c D v (100 * x) a b → XI l M_X7_balancedCut G _ m 18 [(0, .ref (gA G 327)), (1, .int (nI v)), (2, .int a), (3, .int b), (4, .int (nI x))] []) (n := n) (Nat.zero_le _) ?_ ?_ m0 _ _ (fun _ _ _ _ => rfl) (Or.inl ⟨fun x hx => absurd hx (Nat.not_lt_zero _), rfl⟩)
  · intro m a b o h
    refine t_X7_balancedCut_18 hG _ _ _ _ m ?_
    have b3 : m 327 3 = nI n := by rw [o 327 (by decide) (by decide) (by decide)]; exact h3
    rw [b3]
    refine ⟨fun _ => ⟨o, ?_⟩, fun z => absurd ((i_nle (by omega) (by omega)).mpr (Nat.le_refl _)) z⟩
    rcases h.skip (K' := 1200) (by omega) (fun x h1 h2 p => by have := F.tD.v1 p.2.2; omega) with ⟨h1, h2⟩ | ⟨k, h1, h2, h3⟩
    · exact Or.inl ⟨h1, h2⟩
    · exact Or.inr ⟨k, h1, h3⟩
  · intro x _ hx ih m a b o hb
    refine t_X7_balancedCut_18 hG _ _ _ _ m ?_
    have b3 : m 327 3 = nI n := by rw [o 327 (by decide) (by decide) (by decide)]; exact h3
    rw [b3, nI_1 x]
    refine ⟨fun z => absurd ((i_nle (by omega) (by omega)).mp z) (by omega), fun _ => ?_⟩
    refine up_loop (P := fun y => ∀ (m : Mem) (a b : Int32), TOut m0 m → BSm n w E c D v (100 * x + y) a b → XI l M_X7_balancedCut G _ m 33 [(0, .ref (gA G 327)), (1, .int (nI v)), (2, .int a), (3, .int b), (4, .int (nI x)), (5, .int (nI y))] []) (n := n) (by omega) ?_ ?_ m _ _ o (hb.skip (by omega) (fun z h1 h2 p => by have := p.1; omega))
    · intro m a b o hb
      refine t_X7_balancedCut_33 hG _ _ _ _ _ m ?_
      have b3 : m 327 3 = nI n := by rw [o 327 (by decide) (by decide) (by decide)]; exact h3
      rw [b3, nI_1 x]
      refine ⟨fun _ => ?_, fun z => absurd ((i_nle (by omega) (by omega)).mpr (Nat.le_refl _)) z⟩
      exact ih m _ _ o (hb.skip (by omega) (fun z h1 h2 p => by
        have e1 : z / 100 = x := by omega
        have := F.tD.v2 (F.tD.ed p.2.1)
        omega))
    · intro y hy1 hy ih2 m a b o hb
      refine t_X7_balancedCut_33 hG _ _ _ _ _ m ?_
      have b3 : m 327 3 = nI n := by rw [o 327 (by decide) (by decide) (by decide)]; exact h3
      have hR : RoAt m 329 w E := h.eq' (o 329 (by decide) (by decide) (by decide))
      have e1 : (100 * x + y) / 100 = x := by omega
      have e2 : (100 * x + y) % 100 = y := by omega
      have bp : BP E c v (100 * x + y) ↔ 0 < E x y ∧ c x v := by unfold BP; rw [e1, e2]; exact ⟨fun z => z.2, fun z => ⟨by omega, z⟩⟩
      have bl : BL n w c D (100 * x + y) = Load n w c D x y := by unfold BL; rw [e1, e2]
      have no : ¬ (0 < E x y ∧ c x v) → ∀ (m : Mem) (a b : Int32), TOut m0 m → BSm n w E c D v (100 * x + y) a b → XI l M_X7_balancedCut G (fun r m => TOut m0 m ∧ BalAns n w E c D v r) m 33 [(0, .ref (gA G 327)), (1, .int (nI v)), (2, .int a), (3, .int b), (4, .int (nI x)), (5, .int (nI (y + 1)))] [] := fun q m a b o h => ih2 m _ _ o (h.skip (by omega) (fun z h1 h2 p => by
        have : z = 100 * x + y := by omega
        subst this
        exact q (bp.mp p)))
      have e100 : (100 : Int32) * nI x + nI y = nI (100 * x + y) := by rw [show (100 : Int32) = nI 100 from rfl, pk_mul, nI_add]
      rw [b3, nI_1 y, e100]
      refine ⟨fun z => absurd ((i_nle (by omega) (by omega)).mp z) (by omega), fun _ => ⟨_, c_at, ?_⟩⟩
      rintro r m ⟨rfl, rfl⟩
      rw [i_cl (by omega), hR.2 x y (by omega) (by omega)]
      have be := F.2.2.1 x y
      refine ⟨i_in (by omega) (by decide), fun z => ?_, fun z => ⟨_, c_isOneTree hG hr hR F hv (by omega), ?_⟩⟩
      · exact no (fun q => by have := (i_nle (b := 0) (by omega) (by decide)).mp z; omega) m _ _ o hb
      · have g : 0 < E x y := by
          rcases Nat.eq_zero_or_pos (E x y) with e | e
          · exact absurd (by rw [e]; exact (i_nle (a := 0) (b := 0) (by decide) (by decide)).mpr (Nat.le_refl _)) z
          · exact e
        rintro r m2 ⟨k1, rfl⟩
        have o2 := o.tr (TOut.f k1)
        refine jn (fun q => no (fun z => q (T.sy z.2)) m2 _ _ o2 hb) (fun q => ⟨_, c_copy hr ht (by decide), ?_⟩)
        rintro m3 ⟨k2, k3⟩
        have o3 := o2.tr (TOut.t k2)
        have hR2 : RoAt m2 329 w E := hR.eq' (k1 329 (by decide) (by decide))
        have hR3 : RoAt m3 330 w E := hR2.eq k3
        refine ⟨_, c_join ht hR3 (by omega) (by omega), ?_⟩
        rintro m4 ⟨k4, hR4⟩
        have o4 := o3.tr (TOut.t k4)
        have F4 := F.cut g
        have n4 : m4 327 3 = nI n := by rw [o4 327 (by decide) (by decide) (by decide)]; exact h3
        refine ⟨_, c_weightWith hG ht (by decide) hR4 F4 n4 hx, ?_⟩
        rintro r m5 ⟨k5, rfl⟩
        have o5 := o4.tr (TOut.f k5)
        have n5 : m5 327 3 = nI n := by rw [o5 327 (by decide) (by decide) (by decide)]; exact h3
        refine ⟨_, c_weightWith hG ht (by decide) (hR4.eq' (k5 330 (by decide) (by decide))) F4 n5 hy, ?_⟩
        rintro r m6 ⟨k6, rfl⟩
        have o6 := o5.tr (TOut.f k6)
        have wa : smO ((fun x_1 y_1 => c x_1 y_1 ∧ (c x_1 x → (D x_1 x < D x_1 y ↔ D y_1 x < D y_1 y))) x) w n = LoadA n w c D x y := LoadA_cut F g
        have wb : smO ((fun x_1 y_1 => c x_1 y_1 ∧ (c x_1 x → (D x_1 x < D x_1 y ↔ D y_1 x < D y_1 y))) y) w n = LoadB n w c D x y := LoadB_cut F g
        rw [wa, wb]
        have b1 := Load_le F x y
        have pk := bp.mpr ⟨g, T.sy q⟩
        have mx : Load n w c D x y = max (LoadA n w c D x y) (LoadB n w c D x y) := rfl
        have la : LoadA n w c D x y ≤ Load n w c D x y := by rw [mx]; exact Nat.le_max_left _ _
        have lb : LoadB n w c D x y ≤ Load n w c D x y := by rw [mx]; exact Nat.le_max_right _ _
        have go : ∀ a b : Int32, BSm n w E c D v (100 * x + y + 1) a b → XI l M_X7_balancedCut G (fun r m => TOut m0 m ∧ BalAns n w E c D v r) m6 33 [(0, .ref (gA G 327)), (1, .int (nI v)), (2, .int a), (3, .int b), (4, .int (nI x)), (5, .int (nI (y + 1)))] [] := fun a b h => ih2 m6 _ _ o6 h
        -- the load is that of the heavier part, ld
        have fin : ∀ ld : Nat, ld = Load n w c D x y → ((a = -9 → ((¬ nI (100 * x + y) = nI (100 * x + y) → XI l M_X7_balancedCut G (fun r m => TOut m0 m ∧ BalAns n w E c D v r) m6 33 [(0, .ref (gA G 327)), (1, .int (nI v)), (2, .int (nI (100 * x + y))), (3, .int b), (4, .int (nI x)), (5, .int (nI (y + 1)))] []) ∧ (nI (100 * x + y) = nI (100 * x + y) → XI l M_X7_balancedCut G (fun r m => TOut m0 m ∧ BalAns n w E c D v r) m6 33 [(0, .ref (gA G 327)), (1, .int (nI v)), (2, .int (nI (100 * x + y))), (3, .int (nI ld)), (4, .int (nI x)), (5, .int (nI (y + 1)))] []))) ∧ (¬ a = -9 → ((b ≤ nI ld → ((¬ a = nI (100 * x + y) → XI l M_X7_balancedCut G (fun r m => TOut m0 m ∧ BalAns n w E c D v r) m6 33 [(0, .ref (gA G 327)), (1, .int (nI v)), (2, .int a), (3, .int b), (4, .int (nI x)), (5, .int (nI (y + 1)))] []) ∧ (a = nI (100 * x + y) → XI l M_X7_balancedCut G (fun r m => TOut m0 m ∧ BalAns n w E c D v r) m6 33 [(0, .ref (gA G 327)), (1, .int (nI v)), (2, .int a), (3, .int (nI ld)), (4, .int (nI x)), (5, .int (nI (y + 1)))] []))) ∧ (¬ b ≤ nI ld → ((¬ nI (100 * x + y) = nI (100 * x + y) → XI l M_X7_balancedCut G (fun r m => TOut m0 m ∧ BalAns n w E c D v r) m6 33 [(0, .ref (gA G 327)), (1, .int (nI v)), (2, .int (nI (100 * x + y))), (3, .int b), (4, .int (nI x)), (5, .int (nI (y + 1)))] []) ∧ (nI (100 * x + y) = nI (100 * x + y) → XI l M_X7_balancedCut G (fun r m => TOut m0 m ∧ BalAns n w E c D v r) m6 33 [(0, .ref (gA G 327)), (1, .int (nI v)), (2, .int (nI (100 * x + y))), (3, .int (nI ld)), (4, .int (nI x)), (5, .int (nI (y + 1)))] [])))))) := by
          intro ld eld
          subst eld
          rcases hb with ⟨h1, rfl⟩ | ⟨k, rfl, rfl, hm⟩
          · exact ⟨fun _ => ⟨fun z => absurd rfl z, fun _ => go _ _ (Or.inr ⟨_, rfl, by rw [bl], AMin.first h1 pk⟩)⟩, fun z => absurd rfl z⟩
          · have b2 : BL n w c D k ≤ 1188 := Load_le F _ _
            have hk := hm.1
            refine ⟨fun z => absurd z (i_n9 (by omega)), fun _ => ?_⟩
            rw [i_nle (by omega) (by omega)]
            exact ⟨fun z => ⟨fun _ => go _ _ (Or.inr ⟨k, rfl, rfl, hm.keep (fun _ => by rw [bl]; exact z)⟩), fun e => absurd ((i_neq (by omega) (by omega)).mp e) (by omega)⟩, fun z => ⟨fun z => absurd rfl z, fun _ => go _ _ (Or.inr ⟨_, rfl, by rw [bl], hm.new pk (by rw [bl]; omega)⟩)⟩⟩
        refine ⟨fun z => fin _ ?_, fun z => fin _ ?_⟩
        · have := (i_nle (by omega) (by omega)).mp z
          rw [mx, Nat.max_eq_right this]
        · have : ¬ LoadA n w c D x y ≤ LoadB n w c D x y := fun q => z ((i_nle (by omega) (by omega)).mpr q)
          rw [mx, Nat.max_eq_left (by omega)]
end KM
