/-! a row's edges -/
theorem cnA_row {f : Nat → Int32} {E : Nat → Nat → Nat} (hE : ∀ u v, E u v ≤ 99) (h : ∀ u v, u < 12 → v < 12 → f (12 + 12 * u + v) = nI (E u v)) {u : Nat} (hu : u < 12) : ∀ j, j ≤ 12 → cnA f (12 + 12 * u + j) = cnA f (12 + 12 * u) + cn (nz E u) j
  | 0, _ => rfl
  | j + 1, hj => by
    have ih := cnA_row hE h hu j (by omega)
    have b := hE u j
    show cnA f (12 + 12 * u + j) + (if 12 ≤ 12 + 12 * u + j ∧ ¬ f (12 + 12 * u + j) ≤ 0 then 1 else 0) = cnA f (12 + 12 * u) + (cn (nz E u) j + (if nz E u j = true then 1 else 0))
    rw [ih, h u j hu (by omega)]
    by_cases q : 0 < E u j
    · rw [if_pos (nz_t.mpr q), if_pos ⟨by omega, fun z => by have := (i_nle (b := 0) (by omega) (by decide)).mp z; omega⟩]; omega
    · rw [if_neg (fun z => q (nz_t.mp z)), if_neg (fun z => z.2 ((i_nle (b := 0) (by omega) (by decide)).mpr (by omega)))]; rfl
theorem cnA_all {f : Nat → Int32} {E : Nat → Nat → Nat} (hE : ∀ u v, E u v ≤ 99) (h : ∀ u v, u < 12 → v < 12 → f (12 + 12 * u + v) = nI (E u v)) : ∀ k, k ≤ 12 → cnA f (12 + 12 * k) = cnA f 12 + Sm (fun u => cn (nz E u) 12) k := by
  intro k
  induction k with
  | zero => intro _; rw [Nat.mul_zero, Nat.add_zero]; exact (Nat.add_zero _).symm
  | succ k ih =>
    intro hk
    have ih := ih (by omega)
    have r := cnA_row hE h (u := k) (by omega) 12 (Nat.le_refl _)
    have e : 12 + 12 * (k + 1) = 12 + 12 * k + 12 := by omega
    have e2 : Sm (fun u => cn (nz E u) 12) (k + 1) = Sm (fun u => cn (nz E u) 12) k + cn (nz E k) 12 := rfl
    rw [e, r, ih, e2, Nat.add_assoc]
