/-! the model: save, restore -/
section KM
variable {l : Launch} {G : Gx} {mem : Mem} {n : Nat} {w : Nat → Nat} {E : Nat → Nat → Nat} {c : Nat → Nat → Prop} {D H : Nat → Nat → Nat}
theorem i_64_0 : (0 : Int64).toInt = 0 := rfl
theorem i_64_1 : (1 : Int64).toInt = 1 := rfl
theorem c_mSaveNo (hG : Mn G) {s : Int32} (hs : ¬ (0 ≤ s.toInt ∧ s.toInt ≤ 1)) : CtI l M_X7_save G [.ref (gA G 327), .int s] mem (fun r m => m = mem ∧ r = -1) := by
  refine CtI_of (by decide) (Nat.le_of_ble_eq_true rfl) rfl (t_X7_save_0 hG _ mem ?_)
  refine ⟨_, c_in' s 0 1 i_64_0 i_64_1, ?_⟩
  rintro r m ⟨rfl, rfl⟩
  rw [if_neg hs]
  exact ⟨fun z => absurd rfl z, fun _ => ⟨rfl, rfl⟩⟩
theorem c_mSave (hG : Mn G) (hr : Ra G 329) (h : RoAt mem 329 w E) (F : Fst n w E c D H) {s : Nat} (hs : s < 2) : CtI l M_X7_save G [.ref (gA G 327), .int (nI s)] mem (fun r m => r = nI (cntE E n n) ∧ m 334 = upd (mem 334) s 1 ∧ (∀ j, m 333 j = if 156 * s ≤ j ∧ j < 156 * s + 156 then mem 329 (j - 156 * s) else mem 333 j) ∧ ∀ a, a ≠ 333 → a ≠ 334 → m a = mem a) := by
  refine CtI_of (by decide) (Nat.le_of_ble_eq_true rfl) rfl (t_X7_save_0 hG _ mem ?_)
  refine ⟨_, c_in' (nI s) 0 1 i_64_0 i_64_1, ?_⟩
  rintro r m0 ⟨rfl, rfl⟩
  rw [if_pos (by rw [i_nI (by omega)]; omega), i_cl (by omega)]
  refine ⟨fun _ => ⟨i_in hs (by decide), ?_⟩, fun z => absurd z (by decide)⟩
  refine up_loop (P := fun k => ∀ m : Mem, (∀ a, a ≠ 333 → m a = wr m0 334 s 1 a) → (∀ j, m 333 j = if 156 * s ≤ j ∧ j < 156 * s + k then m0 329 (j - 156 * s) else m0 333 j) → XI l M_X7_save G _ m 21 [(0, .ref (gA G 327)), (1, .int (nI s)), (2, .int (nI k))] []) (n := 156) (Nat.zero_le _) ?_ ?_ _ (fun _ _ => rfl) (fun j => by rw [if_neg (by omega), wr_n (by omega)])
  · intro m i1 i2
    refine t_X7_save_21 hG _ _ m ?_
    have o : ∀ a, a ≠ 333 → a ≠ 334 → m a = m0 a := fun a q1 q2 => by rw [i1 a q1, wr_n q2]
    refine ⟨fun _ => ⟨_, c_edgesOf hr (h.eq' (o 329 (by omega) (by omega))) F, ?_⟩, fun z => absurd ((i_nle (a := 156) (by decide) (by decide)).mpr (Nat.le_refl _)) z⟩
    rintro r m ⟨rfl, rfl⟩
    exact ⟨rfl, by rw [i1 334 (by omega), wr_s], i2, o⟩
  · intro k _ hk ih m i1 i2
    refine t_X7_save_21 hG _ _ m ?_
    rw [i_at6, i_cl (k := k) (by omega), i_cl (k := 156 * s + k) (by omega), nI_1 k]
    refine ⟨fun z => absurd ((i_nle (a := 156) (by decide) (by omega)).mp z) (by omega), fun _ => ⟨i_in hk (by decide), i_in (by omega) (by decide), ih _ (fun a ha => by rw [wr_n ha]; exact i1 a ha) (fun j => ?_)⟩⟩
    rw [wr_at, i2 j, i1 329 (by omega), wr_n (by omega)]
    by_cases q : j = 156 * s + k
    · rw [if_pos ⟨rfl, q⟩, if_pos (by omega), show j - 156 * s = k by omega]
    · rw [if_neg (by omega)]
      by_cases q2 : 156 * s ≤ j ∧ j < 156 * s + k
      · rw [if_pos q2, if_pos (by omega)]
      · rw [if_neg q2, if_neg (by omega)]
end KM
