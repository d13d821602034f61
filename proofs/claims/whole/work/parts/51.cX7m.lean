/-! the model: edgesOf -/
section KM
variable {l : Launch} {G : Gx} {mem : Mem}
theorem i_at3 {u v : Nat} : (3 : Int32) * nI u + nI v = nI (3 * u + v) := by rw [show (3 : Int32) = nI 3 from rfl, pk_mul, nI_add]
theorem i_at30 {u : Nat} : (3 : Int32) * nI u = nI (3 * u) := by rw [show (3 : Int32) = nI 3 from rfl, pk_mul]
/-- edges of a row: both of their places are counted -/
def cnA (f : Nat → Int32) : Nat → Nat
  | 0 => 0
  | k + 1 => cnA f k + if 12 ≤ k ∧ ¬ f k ≤ 0 then 1 else 0
theorem cnA_le (f : Nat → Int32) : ∀ k, cnA f k ≤ k
  | 0 => Nat.le_refl _
  | k + 1 => by
    have := cnA_le f k
    unfold cnA
    split <;> omega
theorem c_edgesOf0 {r : Nat} (hr : Ra G r) : CtI l M_X7_edgesOf G [.ref (gA G r)] mem (fun x m => m = mem ∧ x = nI (cnA (mem r) 156 / 2)) := by
  refine CtI_of (by decide) (Nat.le_of_ble_eq_true rfl) rfl (t_X7_edgesOf_0 hr mem ?_)
  have c0 : ∀ k, k ≤ 12 → cnA (mem r) k = 0 := by
    intro k
    induction k with
    | zero => intro _; rfl
    | succ k ih =>
      intro hk
      unfold cnA
      rw [ih (by omega), if_neg (by omega)]
  refine up_loop (P := fun k => XI l M_X7_edgesOf G _ mem 5 [(0, .ref (gA G r)), (1, .int (nI (cnA (mem r) k))), (2, .int (nI k))] []) (n := 156) (i := 12) (by decide) ?_ ?_ |> fun q => by rw [c0 12 (Nat.le_refl _)] at q; exact q
  · refine t_X7_edgesOf_5 hr _ _ mem ?_
    have := cnA_le (mem r) 156
    refine ⟨fun _ => ⟨rfl, ?_⟩, fun z => absurd ((i_nle (a := 156) (by decide) (by decide)).mpr (Nat.le_refl _)) z⟩
    rw [show (2 : Int32) = nI 2 from rfl, pk_div (by omega) (by decide) (by decide)]
  · intro k h12 hk ih
    refine t_X7_edgesOf_5 hr _ _ mem ?_
    have ex : cnA (mem r) (k + 1) = cnA (mem r) k + if 12 ≤ k ∧ ¬ mem r k ≤ 0 then 1 else 0 := rfl
    rw [i_cl (by omega), nI_1 k]
    refine ⟨fun z => absurd ((i_nle (a := 156) (by decide) (by omega)).mp z) (by omega), fun _ => ⟨i_in hk (by decide), fun z => ?_, fun z => ?_⟩⟩
    · rw [ex, if_neg (fun y => y.2 z)] at ih
      rw [Int32.add_zero]; exact ih
    · rw [ex, if_pos ⟨h12, z⟩] at ih
      rw [nI_1]; exact ih
end KM
