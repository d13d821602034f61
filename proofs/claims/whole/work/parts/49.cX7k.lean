/-! the model: its diary -/
section KM
variable {l : Launch} {G : Gx} {mem : Mem}
theorem i_at6 {u v : Nat} : (156 : Int32) * nI u + nI v = nI (156 * u + v) := by rw [show (156 : Int32) = nI 156 from rfl, pk_mul, nI_add]
theorem c_note (hG : Mn G) {nx ct : Nat} (h1 : mem 327 10 = nI nx) (h2 : mem 327 9 = nI ct) (hx : nx < 14) (hc : ct ≤ 14) : CtV l M_X7_note G [.ref (gA G 327)] mem (fun m => m 327 10 = nI ((nx + 1) % 14) ∧ m 327 9 = nI (min (ct + 1) 14) ∧ (∀ j, m 332 j = if 156 * nx ≤ j ∧ j < 156 * nx + 156 then mem 329 (j - 156 * nx) else mem 332 j) ∧ (∀ a, a ≠ 327 → a ≠ 332 → m a = mem a) ∧ ∀ j, j ≠ 9 → j ≠ 10 → m 327 j = mem 327 j) := by
  refine CtV_of (by decide) (Nat.le_of_ble_eq_true rfl) rfl (t_X7_note_0 hG mem ?_)
  refine up_loop (P := fun k => ∀ m : Mem, (∀ a, a ≠ 332 → m a = mem a) → (∀ j, m 332 j = if 156 * nx ≤ j ∧ j < 156 * nx + k then mem 329 (j - 156 * nx) else mem 332 j) → XV l M_X7_note G _ m 2 [(0, .ref (gA G 327)), (1, .int (nI k))] []) (n := 156) (Nat.zero_le _) ?_ ?_ mem (fun _ _ => rfl) (fun j => by rw [if_neg (by omega)])
  · intro m i1 i2
    refine t_X7_note_2 hG _ m ?_
    have b1 : m 327 10 = nI nx := by rw [i1 327 (by omega)]; exact h1
    have b2 : m 327 9 = nI ct := by rw [i1 327 (by omega)]; exact h2
    have e2 : nI nx + 1 - (nI nx + 1) / 14 * 14 = nI ((nx + 1) % 14) := by rw [nI_1, show (14 : Int32) = nI 14 from rfl, rem_nI (by omega) (by decide) (by decide)]
    have b3 : wr m 327 10 (nI ((nx + 1) % 14)) 327 9 = nI ct := by rw [wr_at, if_neg (by omega)]; exact b2
    have fin : ∀ x : Int32, x = nI (min (ct + 1) 14) → (wr (wr m 327 10 (nI ((nx + 1) % 14))) 327 9 x) 327 10 = nI ((nx + 1) % 14) ∧ (wr (wr m 327 10 (nI ((nx + 1) % 14))) 327 9 x) 327 9 = nI (min (ct + 1) 14) ∧ (∀ j, (wr (wr m 327 10 (nI ((nx + 1) % 14))) 327 9 x) 332 j = if 156 * nx ≤ j ∧ j < 156 * nx + 156 then mem 329 (j - 156 * nx) else mem 332 j) ∧ (∀ a, a ≠ 327 → a ≠ 332 → (wr (wr m 327 10 (nI ((nx + 1) % 14))) 327 9 x) a = mem a) ∧ ∀ j, j ≠ 9 → j ≠ 10 → (wr (wr m 327 10 (nI ((nx + 1) % 14))) 327 9 x) 327 j = mem 327 j := fun x ex => by
      refine ⟨?_, ?_, fun j => ?_, fun a q1 q2 => ?_, fun j q1 q2 => ?_⟩
      · rw [wr_at, if_neg (by omega), wr_at, if_pos ⟨rfl, rfl⟩]
      · rw [wr_at, if_pos ⟨rfl, rfl⟩, ex]
      · rw [wr_n (by omega), wr_n (by omega)]; exact i2 j
      · rw [wr_n q1, wr_n q1]; exact i1 a q2
      · rw [wr_at, if_neg (by omega), wr_at, if_neg (by omega), i1 327 (by omega)]
    rw [b1, e2, b3, nI_1 ct]
    refine ⟨fun _ => ⟨fun z => fin 14 ?_, fun z => fin _ ?_⟩, fun z => absurd ((i_nle (a := 156) (by decide) (by decide)).mpr (Nat.le_refl _)) z⟩
    · have := (i_nle (a := 14) (by decide) (by omega)).mp z
      rw [Nat.min_eq_right (by omega)]; rfl
    · have : ¬ 14 ≤ ct := fun q => z ((i_nle (a := 14) (by decide) (by omega)).mpr q)
      rw [Nat.min_eq_left (by omega)]
  · intro k _ hk ih m i1 i2
    refine t_X7_note_2 hG _ m ?_
    have b1 : m 327 10 = nI nx := by rw [i1 327 (by omega)]; exact h1
    rw [b1, i_at6, i_cl (k := k) (by omega), i_cl (k := 156 * nx + k) (by omega), nI_1 k]
    refine ⟨fun z => absurd ((i_nle (a := 156) (by decide) (by omega)).mp z) (by omega), fun _ => ⟨i_in hk (by decide), i_in (by omega) (by decide), ih _ (fun a ha => by rw [wr_n ha]; exact i1 a ha) (fun j => ?_)⟩⟩
    rw [wr_at, i2 j, i1 329 (by omega)]
    by_cases q : j = 156 * nx + k
    · rw [if_pos ⟨rfl, q⟩, if_pos (by omega), show j - 156 * nx = k by omega]
    · rw [if_neg (by omega)]
      by_cases q2 : 156 * nx ≤ j ∧ j < 156 * nx + k
      · rw [if_pos q2, if_pos (by omega)]
      · rw [if_neg q2, if_neg (by omega)]
end KM
