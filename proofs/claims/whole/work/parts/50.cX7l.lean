/-! the model: undo -/
section KM
variable {l : Launch} {G : Gx} {mem : Mem}
theorem c_undo0 (hG : Mn G) (h2 : mem 327 9 = 0) : CtI l M_X7_undo G [.ref (gA G 327)] mem (fun r m => m = mem ∧ r = -3) :=
  CtI_of (by decide) (Nat.le_of_ble_eq_true rfl) rfl (t_X7_undo_0 hG mem ⟨fun z => absurd h2 z, fun _ => ⟨rfl, rfl⟩⟩)
theorem c_undo (hG : Mn G) {nx ct : Nat} (h1 : mem 327 10 = nI nx) (h2 : mem 327 9 = nI ct) (hx : nx < 14) (h0 : 0 < ct) (hc : ct ≤ 14) : CtI l M_X7_undo G [.ref (gA G 327)] mem (fun r m => r = nI (ct - 1) ∧ m 327 10 = nI ((nx + 13) % 14) ∧ m 327 9 = nI (ct - 1) ∧ (∀ k, k < 156 → m 329 k = mem 332 (156 * ((nx + 13) % 14) + k)) ∧ (∀ a, a ≠ 327 → a ≠ 329 → m a = mem a) ∧ ∀ j, j ≠ 9 → j ≠ 10 → m 327 j = mem 327 j) := by
  refine CtI_of (by decide) (Nat.le_of_ble_eq_true rfl) rfl (t_X7_undo_0 hG mem ⟨fun _ => ?_, fun z => ?_⟩)
  · have e1 : mem 327 9 - 1 = nI (ct - 1) := by rw [h2, show (1 : Int32) = nI 1 from rfl, pk_sub (by omega)]
    have e2 : wr mem 327 9 (nI (ct - 1)) 327 10 = nI nx := by rw [wr_at, if_neg (by omega)]; exact h1
    have e : nI nx + 14 - 1 = nI (nx + 13) := by rw [show (14 : Int32) = nI 14 from rfl, nI_add, show (1 : Int32) = nI 1 from rfl, pk_sub (by omega)]; congr 1
    rw [e1, e2, e, show (14 : Int32) = nI 14 from rfl, rem_nI (by omega) (by decide) (by decide)]
    have bx : (nx + 13) % 14 < 14 := Nat.mod_lt _ (by decide)
    generalize (nx + 13) % 14 = y at bx ⊢
    generalize em : wr (wr mem 327 9 (nI (ct - 1))) 327 10 (nI y) = m0
    have at0 : ∀ a b, m0 a b = if a = 327 ∧ b = 10 then nI y else if a = 327 ∧ b = 9 then nI (ct - 1) else mem a b := fun a b => by rw [← em, wr_at, wr_at]
    clear em
    have oth : ∀ a, a ≠ 327 → m0 a = mem a := fun a ha => by
      funext b
      rw [at0, if_neg (by omega), if_neg (by omega)]
    refine up_loop (P := fun k => ∀ m : Mem, (∀ a, a ≠ 329 → m a = m0 a) → (∀ j, j < k → m 329 j = mem 332 (156 * y + j)) → XI l M_X7_undo G _ m 38 [(0, .ref (gA G 327)), (1, .int (nI k))] []) (n := 156) (Nat.zero_le _) ?_ ?_ m0 (fun _ _ => rfl) (fun j q => absurd q (Nat.not_lt_zero j))
    · intro m i1 i2
      refine t_X7_undo_38 hG _ m ?_
      have g9 : m 327 9 = nI (ct - 1) := by rw [i1 327 (by omega), at0, if_neg (by omega), if_pos ⟨rfl, rfl⟩]
      refine ⟨fun _ => ⟨g9, ?_, g9, i2, fun a q1 q2 => by rw [i1 a q2, oth a q1], fun j q1 q2 => ?_⟩, fun z => absurd ((i_nle (a := 156) (by decide) (by decide)).mpr (Nat.le_refl _)) z⟩
      · rw [i1 327 (by omega), at0, if_pos ⟨rfl, rfl⟩]
      · rw [i1 327 (by omega), at0, if_neg (by omega), if_neg (by omega)]
    · intro k _ hk ih m i1 i2
      refine t_X7_undo_38 hG _ m ?_
      have b1 : m 327 10 = nI y := by rw [i1 327 (by omega), at0, if_pos ⟨rfl, rfl⟩]
      rw [b1, i_at6, i_cl (k := k) (by omega), i_cl (k := 156 * y + k) (by omega), nI_1 k]
      refine ⟨fun z => absurd ((i_nle (a := 156) (by decide) (by omega)).mp z) (by omega), fun _ => ⟨i_in (by omega) (by decide), i_in hk (by decide), ih _ (fun a ha => by rw [wr_n ha]; exact i1 a ha) (fun j hj => ?_)⟩⟩
      rw [wr_at, i1 332 (by omega), oth 332 (by omega)]
      by_cases q : j = k
      · rw [if_pos ⟨rfl, q⟩, q]
      · rw [if_neg (by omega)]; exact i2 j (by omega)
  · rw [h2, i_eq, i_nI (by omega), i_0] at z; omega
end KM
