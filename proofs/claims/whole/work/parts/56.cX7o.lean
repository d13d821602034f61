/-! the model: restore -/
section KM
variable {l : Launch} {G : Gx} {mem : Mem} {n : Nat} {w : Nat → Nat} {E : Nat → Nat → Nat} {c : Nat → Nat → Prop} {D H : Nat → Nat → Nat}
theorem c_mRestNo (hG : Mn G) {s : Int32} (hs : ¬ (0 ≤ s.toInt ∧ s.toInt ≤ 1)) : CtI l M_X7_restore G [.ref (gA G 327), .int s] mem (fun r m => m = mem ∧ r = -1) := by
  refine CtI_of (by decide) (Nat.le_of_ble_eq_true rfl) rfl (t_X7_restore_0 hG _ mem ?_)
  refine ⟨_, c_in' s 0 1 i_64_0 i_64_1, ?_⟩
  rintro r m ⟨rfl, rfl⟩
  rw [if_neg hs]
  exact ⟨fun z => absurd rfl z, fun _ => ⟨rfl, rfl⟩⟩
theorem c_mRest0 (hG : Mn G) {s : Nat} (hs : s < 2) (h : mem 334 s = 0) : CtI l M_X7_restore G [.ref (gA G 327), .int (nI s)] mem (fun r m => m = mem ∧ r = -3) := by
  refine CtI_of (by decide) (Nat.le_of_ble_eq_true rfl) rfl (t_X7_restore_0 hG _ mem ?_)
  refine ⟨_, c_in' (nI s) 0 1 i_64_0 i_64_1, ?_⟩
  rintro r m0 ⟨rfl, rfl⟩
  rw [if_pos (by rw [i_nI (by omega)]; omega), i_cl (by omega), h]
  exact ⟨fun _ => ⟨i_in hs (by decide), fun z => absurd rfl z, fun _ => ⟨rfl, rfl⟩⟩, fun z => absurd z (by decide)⟩
theorem c_mRest (hG : Mn G) (hr : Ra G 329) {s : Nat} (hs : s < 2) (h1 : mem 334 s ≠ 0) (hw : ∀ v, v < 12 → mem 333 (156 * s + v) = nI (w v)) (hE : ∀ u v, u < 12 → v < 12 → mem 333 (156 * s + (12 + 12 * u + v)) = nI (E u v)) (F : Fst n w E c D H) : CtI l M_X7_restore G [.ref (gA G 327), .int (nI s)] mem (fun r m => r = nI (cntE E n n) ∧ RoAt m 329 w E ∧ m 327 9 = 0 ∧ (∀ a, a ≠ 327 → a ≠ 329 → m a = mem a) ∧ ∀ j, j ≠ 9 → m 327 j = mem 327 j) := by
  refine CtI_of (by decide) (Nat.le_of_ble_eq_true rfl) rfl (t_X7_restore_0 hG _ mem ?_)
  refine ⟨_, c_in' (nI s) 0 1 i_64_0 i_64_1, ?_⟩
  rintro r m0 ⟨rfl, rfl⟩
  rw [if_pos (by rw [i_nI (by omega)]; omega), i_cl (by omega)]
  refine ⟨fun _ => ⟨i_in hs (by decide), fun _ => ?_, fun z => absurd z h1⟩, fun z => absurd z (by decide)⟩
  refine up_loop (P := fun k => ∀ m : Mem, (∀ a, a ≠ 329 → m a = m0 a) → (∀ j, j < k → m 329 j = m0 333 (156 * s + j)) → XI l M_X7_restore G _ m 26 [(0, .ref (gA G 327)), (1, .int (nI s)), (2, .int (nI k))] []) (n := 156) (Nat.zero_le _) ?_ ?_ m0 (fun _ _ => rfl) (fun j q => absurd q (Nat.not_lt_zero j))
  · intro m i1 i2
    refine t_X7_restore_26 hG _ _ m ?_
    have ro : RoAt (wr m 327 9 0) 329 w E := ⟨fun v hv => by rw [wr_n (by omega), i2 v (by omega)]; exact hw v hv, fun u v hu hv => by rw [wr_n (by omega), i2 _ (by omega)]; exact hE u v hu hv⟩
    refine ⟨fun _ => ⟨_, c_edgesOf hr ro F, ?_⟩, fun z => absurd ((i_nle (a := 156) (by decide) (by decide)).mpr (Nat.le_refl _)) z⟩
    rintro r m2 ⟨e, rfl⟩
    rw [e]
    exact ⟨rfl, ro, by rw [wr_at, if_pos ⟨rfl, rfl⟩], fun a q1 q2 => by rw [wr_n q1]; exact i1 a q2, fun j q => by rw [wr_at, if_neg (by omega), i1 327 (by omega)]⟩
  · intro k _ hk ih m i1 i2
    refine t_X7_restore_26 hG _ _ m ?_
    rw [i_at6, i_cl (k := k) (by omega), i_cl (k := 156 * s + k) (by omega), nI_1 k]
    refine ⟨fun z => absurd ((i_nle (a := 156) (by decide) (by omega)).mp z) (by omega), fun _ => ⟨i_in (by omega) (by decide), i_in hk (by decide), ih _ (fun a ha => by rw [wr_n ha]; exact i1 a ha) (fun j hj => ?_)⟩⟩
    rw [wr_at, i1 333 (by omega)]
    by_cases q : j = k
    · rw [if_pos ⟨rfl, q⟩, q]
    · rw [if_neg (by omega)]; exact i2 j (by omega)
end KM
