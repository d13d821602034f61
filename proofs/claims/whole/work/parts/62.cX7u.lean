/-! the model: the expected reach -/
section KM
variable {l : Launch} {G : Gx} {mem : Mem} {n : Nat} {w : Nat → Nat} {E : Nat → Nat → Nat} {c : Nat → Nat → Prop} {D H : Nat → Nat → Nat}
/-- the product after k factors -/
def prd (t h : Nat) : Nat → Nat
  | 0 => 1
  | k + 1 => prd t h k * if k < h then t else 10
theorem prd_lo {t h : Nat} : ∀ k, k ≤ h → prd t h k = t ^ k
  | 0, _ => rfl
  | k + 1, q => by
    show prd t h k * (if k < h then t else 10) = t ^ (k + 1)
    rw [prd_lo k (by omega), if_pos (by omega), Nat.pow_succ]
theorem prd_hi {t h : Nat} : ∀ j, prd t h (h + j) = t ^ h * 10 ^ j
  | 0 => by rw [Nat.add_zero, prd_lo h (Nat.le_refl _), Nat.pow_zero, Nat.mul_one]
  | j + 1 => by
    show prd t h (h + j) * (if h + j < h then t else 10) = _
    rw [prd_hi j, if_neg (by omega), Nat.pow_succ, Nat.mul_assoc]
theorem prd_chn {t h : Nat} (hh : h ≤ 11) : prd t h 11 = chn t h := by
  have := prd_hi (t := t) (h := h) (11 - h)
  rw [show h + (11 - h) = 11 by omega] at this
  rw [this, Nat.mul_comm]; rfl
theorem c_mReach (hG : Mn G) (hr : Ra G 329) (h : RoAt mem 329 w E) (F : Fst n w E c D H) (h3 : mem 327 3 = nI n) {v x : Nat} (hv : v < n) (hx : x ≤ 10) : CtL l M_X7_expectedReach G [.ref (gA G 327), .int (nI v), .int (nI x)] mem (fun r m => (∀ a, a ≠ 336 → a ≠ 337 → m a = mem a) ∧ r = lN (Rea n w c H (10 - x) v)) := by
  have hn := F.le
  have T := F.tD
  refine CtL_of (by decide) (Nat.le_of_ble_eq_true rfl) rfl (t_X7_expectedReach_0 hG _ _ mem ?_)
  refine ⟨_, c_isVertex' hG h3 hn hv, ?_⟩
  rintro r m ⟨rfl, rfl⟩
  refine ⟨fun _ => ⟨_, c_in' (nI x) 0 10 i_64_0 (d' := 10) rfl, ?_⟩, fun z => absurd z (by decide)⟩
  rintro r m0 ⟨rfl, rfl⟩
  rw [if_pos (by rw [i_nI (by omega)]; omega)]
  refine ⟨fun _ => ⟨_, c_layFar hG hr h F hv, ?_⟩, fun z => absurd z (by decide)⟩
  rintro m1 ⟨a1, a2⟩
  have b3 : m1 327 3 = nI n := by rw [a1 327 (by omega) (by omega)]; exact h3
  have hR : RoAt m1 329 w E := h.eq' (a1 329 (by omega) (by omega))
  refine up_loop (P := fun j => XL l M_X7_expectedReach G _ m1 42 [(0, .ref (gA G 327)), (2, .int (nI x)), (3, .long (lN (smO (fun u => c u v) (fun u => w u * chn (10 - x) (H u v)) j))), (5, .int (nI j))] []) (n := n) (Nat.zero_le _) ?_ ?_
  · refine t_X7_expectedReach_42 hG _ _ _ m1 ?_
    exact ⟨fun _ => ⟨a1, rfl⟩, fun z => absurd (by rw [b3]; exact (i_nle (by omega) (by omega)).mpr (Nat.le_refl _)) z⟩
  · intro j _ hj ih
    refine t_X7_expectedReach_42 hG _ _ _ m1 ?_
    have ex : smO (fun u => c u v) (fun u => w u * chn (10 - x) (H u v)) (j + 1) = smO (fun u => c u v) (fun u => w u * chn (10 - x) (H u v)) j + ifc (c j v) (w j * chn (10 - x) (H j v)) 0 := rfl
    have jin := i_in (k := j) (n := 12) (by omega) (by decide)
    have e10 : (10 : Int32) - nI x = nI (10 - x) := pk_sub (a := 10) hx
    rw [b3, i_cl (by omega)]
    refine ⟨fun z => absurd ((i_nle (by omega) (by omega)).mp z) (by omega), fun _ => ⟨jin, fun z => ⟨i_in (by omega) (by decide), ?_⟩, fun z => ?_⟩⟩
    · have q : c v j := Classical.byContradiction fun q => z ((a2 j (by omega)).2 q).1
      have hh := F.hle q
      have hs : H v j = H j v := F.tH.ds q
      have bw := F.2.1 j hj
      rw [ex, ifc_t (T.sy q)] at ih
      rw [hR.1 j (by omega), nI_l (by omega)]
      refine up_loop (P := fun k => XL l M_X7_expectedReach G _ m1 80 [(0, .ref (gA G 327)), (2, .int (nI x)), (3, .long (lN (smO (fun u => c u v) (fun u => w u * chn (10 - x) (H u v)) j))), (5, .int (nI j)), (6, .long (lN (w j * prd (10 - x) (H j v) k))), (8, .int (nI k))] []) (n := 11) (Nat.zero_le _) ?_ ?_ |> fun q => by rw [show w j * prd (10 - x) (H j v) 0 = w j from Nat.mul_one _] at q; exact q
      · refine t_X7_expectedReach_80 hG _ _ _ _ _ m1 ⟨fun _ => ?_, fun z => absurd ((i_nle (a := 11) (by decide) (by decide)).mpr (Nat.le_refl _)) z⟩
        rw [prd_chn (by omega), lN_add, nI_1 j]
        exact ih
      · intro k _ hk ih2
        refine t_X7_expectedReach_80 hG _ _ _ _ _ m1 ?_
        have ep : w j * prd (10 - x) (H j v) (k + 1) = w j * prd (10 - x) (H j v) k * if k < H j v then 10 - x else 10 := (Nat.mul_assoc _ _ _).symm
        rw [i_cl (by omega), ((a2 j (by omega)).1 q).2, hs, nI_1 k, i_nle (by omega) (by omega), e10, nI_l (by omega), lN_mul]
        refine ⟨fun z => absurd ((i_nle (a := 11) (by decide) (by omega)).mp z) (by omega), fun _ => ⟨jin, fun z => ?_, fun z => ?_⟩⟩
        · rw [ep, if_neg (by omega)] at ih2
          rw [show (10 : Int64) = lN 10 from rfl, lN_mul]; exact ih2
        · rw [ep, if_pos (by omega)] at ih2
          exact ih2
    · have q : ¬ c v j := fun q => i_n9 (k := D v j) (by have := F.dlt q; omega) (((a2 j (by omega)).1 q).1.symm.trans z)
      rw [ex, ifc_f (fun y => q (T.sy y))] at ih
      refine up_loop (P := fun k => XL l M_X7_expectedReach G _ m1 80 [(0, .ref (gA G 327)), (2, .int (nI x)), (3, .long (lN (smO (fun u => c u v) (fun u => w u * chn (10 - x) (H u v)) j))), (5, .int (nI j)), (6, .long (lN 0)), (8, .int (nI k))] []) (n := 11) (Nat.zero_le _) ?_ ?_
      · refine t_X7_expectedReach_80 hG _ _ _ _ _ m1 ⟨fun _ => ?_, fun z => absurd ((i_nle (a := 11) (by decide) (by decide)).mpr (Nat.le_refl _)) z⟩
        rw [lN_add, nI_1 j]
        exact ih
      · intro k _ hk ih2
        refine t_X7_expectedReach_80 hG _ _ _ _ _ m1 ?_
        rw [i_cl (by omega), ((a2 j (by omega)).2 q).2, nI_1 k]
        refine ⟨fun z => absurd ((i_nle (a := 11) (by decide) (by omega)).mp z) (by omega), fun _ => ⟨jin, fun z => ?_, fun z => absurd ?_ z⟩⟩
        · rw [show (10 : Int64) = lN 10 from rfl, lN_mul]; exact ih2
        · rw [i_le, i_m9, i_nI (by omega)]; omega
end KM
