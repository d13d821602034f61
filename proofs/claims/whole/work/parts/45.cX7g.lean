/-! the model's cost, tree -/
section KM
variable {l : Launch} {G : Gx} {mem : Mem} {n k : Nat} {w : Nat → Nat} {E : Nat → Nat → Nat} {c : Nat → Nat → Prop} {D H : Nat → Nat → Nat}
theorem smO_part {p : Nat → Prop} {f : Nat → Nat} : ∀ {j k : Nat}, j ≤ k → smO p f j ≤ smO p f k
  | j, 0, h => by rw [show j = 0 by omega]; exact Nat.le_refl _
  | j, k + 1, h => by
    by_cases e : j = k + 1
    · rw [e]; exact Nat.le_refl _
    · have := smO_part (p := p) (f := f) (j := j) (k := k) (by omega)
      show _ ≤ smO p f k + _
      omega
theorem c_costOf (hG : Mn G) {r : Nat} (hr : Ra G r) (hr2 : r < 336) (h : RoAt mem r w E) (F : Fst n w E c D H) (h3 : mem 327 3 = nI n) {v : Nat} (hv : v < n) : CtI l M_X7_costOf G [.ref (gA G 327), .ref (gA G r), .int (nI v)] mem (fun x m => (∀ a, a ≠ 336 → a ≠ 337 → m a = mem a) ∧ x = nI (Cst n w c D v)) := by
  have hn := F.le
  have T := F.tD
  refine CtI_of (by decide) (Nat.le_of_ble_eq_true rfl) rfl (t_X7_costOf_0 hG hr _ mem ?_)
  refine ⟨_, c_layFar hG hr h F hv, ?_⟩
  rintro m1 ⟨a1, a2⟩
  have b3 : m1 327 3 = nI n := by rw [a1 327 (by omega) (by omega)]; exact h3
  have hR : RoAt m1 r w E := h.eq' (a1 r (by omega) (by omega))
  refine up_loop (P := fun j => XI l M_X7_costOf G _ m1 11 [(0, .ref (gA G 327)), (1, .ref (gA G r)), (3, .int (nI (smO (fun u => c u v) (fun u => w u * D u v) j))), (4, .int (nI j))] []) (n := n) (Nat.zero_le _) ?_ ?_
  · refine t_X7_costOf_11 hG hr _ _ m1 ?_
    exact ⟨fun _ => ⟨a1, rfl⟩, fun z => absurd (by rw [b3]; exact (i_nle (by omega) (by omega)).mpr (Nat.le_refl _)) z⟩
  · intro j _ hj ih
    refine t_X7_costOf_11 hG hr _ _ m1 ?_
    rw [b3, i_cl (by omega), nI_1 j]
    have ex : smO (fun u => c u v) (fun u => w u * D u v) (j + 1) = smO (fun u => c u v) (fun u => w u * D u v) j + ifc (c j v) (w j * D j v) 0 := rfl
    have jin := i_in (k := j) (n := 12) (by omega) (by decide)
    refine ⟨fun z => absurd ((i_nle (by omega) (by omega)).mp z) (by omega), fun _ => ⟨jin, fun z => ⟨i_in (by omega) (by decide), jin, ?_⟩, fun z => ?_⟩⟩
    · have q : c v j := Classical.byContradiction fun q => z ((a2 j (by omega)).2 q).1
      rw [ex, ifc_t (T.sy q)] at ih
      rw [((a2 j (by omega)).1 q).1, hR.1 j (by omega), pk_mul, nI_add, T.ds q]
      exact ih
    · have q : ¬ c v j := fun q => i_n9 (k := D v j) (by have := F.dlt q; omega) (((a2 j (by omega)).1 q).1.symm.trans z)
      rw [ex, ifc_f (fun y => q (T.sy y))] at ih
      rw [Int32.add_zero]; exact ih
theorem c_treeOf (hG : Mn G) (hr : Ra G 329) (h : RoAt mem 329 w E) (F : Fst n w E c D H) (h3 : mem 327 3 = nI n) {v : Nat} (hv : v < n) : CtI l M_X7_treeOf G [.ref (gA G 327), .int (nI v)] mem (fun x m => (∀ a, a ≠ 336 → a ≠ 337 → m a = mem a) ∧ ∃ q, q < n ∧ x = nI q ∧ c v q ∧ ∀ y, y < q → ¬ c v y) := by
  have hn := F.le
  have T := F.tD
  refine CtI_of (by decide) (Nat.le_of_ble_eq_true rfl) rfl (t_X7_treeOf_0 hG _ mem ?_)
  refine ⟨_, c_isVertex' hG h3 hn hv, ?_⟩
  rintro r m ⟨rfl, rfl⟩
  refine ⟨fun _ => ⟨_, c_layFar hG hr h F hv, ?_⟩, fun z => absurd z (by decide)⟩
  rintro m1 ⟨a1, a2⟩
  have cv : (S0 E c v).1 v = true := S0_P.mpr (T.rf hv)
  obtain ⟨-, u2, u3, u4⟩ := fn_ex (p := (S0 E c v).1) (d := 12) (i := 0) ⟨v, by omega, by omega, cv⟩
  generalize fn (S0 E c v).1 12 0 = u at u2 u3 u4
  have cu := S0_P.mp u3
  refine up_loop (P := fun y => XI l M_X7_treeOf G _ m1 21 [(0, .ref (gA G 327)), (2, .int (nI y))] []) (n := u) (Nat.zero_le _) ?_ ?_
  · refine t_X7_treeOf_21 hG _ m1 ?_
    rw [i_cl (by omega), ((a2 u (by omega)).1 cu).1]
    exact ⟨i_in (by omega) (by decide), fun _ => ⟨a1, u, T.v2 cu, rfl, cu, fun y hy q => u4 y (Nat.zero_le _) hy (S0_P.mpr q)⟩, fun z => absurd z (i_n9 (by have := F.dlt cu; omega))⟩
  · intro y _ hy ih
    refine t_X7_treeOf_21 hG _ m1 ?_
    rw [i_cl (by omega), ((a2 y (by omega)).2 (fun q => u4 y (Nat.zero_le _) hy (S0_P.mpr q))).1, nI_1 y]
    exact ⟨i_in (by omega) (by decide), fun z => absurd rfl z, fun _ => ih⟩
end KM
