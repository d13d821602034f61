/-! the model: edgesOf -/
section KM
variable {l : Launch} {G : Gx} {mem : Mem}
theorem i_at3 {u v : Nat} : (3 : Int32) * nI u + nI v = nI (3 * u + v) := by rw [show (3 : Int32) = nI 3 from rfl, pk_mul, nI_add]
theorem i_at30 {u : Nat} : (3 : Int32) * nI u = nI (3 * u) := by rw [show (3 : Int32) = nI 3 from rfl, pk_mul]
/-- edges of a row: both of their places are counted -/
def cnA (f : Nat → Int32) : Nat → Nat
  | 0 => 0
  | k + 1 => cnA f k + if 12 ≤ k ∧ ¬ f k ≤ 0 then 1 else 0
theorem cnA_le (f : Nat → Int32) : ∀ k, cnA f k ≤ k
  | 0 => Nat.le_refl _
  | k + 1 => by
    have := cnA_le f k
    unfold cnA
    split <;> omega
end KM
