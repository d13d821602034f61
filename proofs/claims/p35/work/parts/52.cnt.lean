/-! edges are counted twice -/
def Sm (g : Nat → Nat) : Nat → Nat
  | 0 => 0
  | k + 1 => Sm g k + g k
theorem Sm_cong {g h : Nat → Nat} : ∀ {k : Nat}, (∀ u, u < k → g u = h u) → Sm g k = Sm h k
  | 0, _ => rfl
  | k + 1, q => by
    show Sm g k + g k = Sm h k + h k
    rw [Sm_cong (k := k) (fun u hu => q u (by omega)), q k (by omega)]
theorem Sm_add (g h : Nat → Nat) : ∀ k, Sm (fun u => g u + h u) k = Sm g k + Sm h k
  | 0 => rfl
  | k + 1 => by
    show Sm _ k + (g k + h k) = (Sm g k + g k) + (Sm h k + h k)
    rw [Sm_add g h k]; omega
theorem cntE_Sm (E : Nat → Nat → Nat) (n : Nat) : ∀ k, cntE E n k = Sm (fun u => cntR E u n) k
  | 0 => rfl
  | k + 1 => by
    show cntE E n k + cntR E k n = Sm _ k + cntR E k n
    rw [cntE_Sm E n k]
theorem Sm_col {E : Nat → Nat → Nat} (hs : ∀ u v, E u v = E v u) (v : Nat) : ∀ j, Sm (fun u => if 0 < E u v then 1 else 0) j = cn (nz E v) j
  | 0 => rfl
  | j + 1 => by
    show Sm _ j + (if 0 < E j v then 1 else 0) = cn (nz E v) j + (if nz E v j = true then 1 else 0)
    rw [Sm_col hs v j, hs j v]
    by_cases q : 0 < E v j
    · rw [if_pos q, if_pos (nz_t.mpr q)]
    · rw [if_neg q, if_neg (fun z => q (nz_t.mp z))]
theorem cnt_sq {E : Nat → Nat → Nat} (hs : ∀ u v, E u v = E v u) (hi : ∀ u, E u u = 0) : ∀ k, Sm (fun u => cn (nz E u) k) k = 2 * cntE E k k
  | 0 => rfl
  | k + 1 => by
    have ih := cnt_sq hs hi k
    have c1 := Sm_col hs k k
    have e1 : Sm (fun u => cn (nz E u) (k + 1)) k = Sm (fun u => cn (nz E u) k) k + Sm (fun u => if 0 < E u k then 1 else 0) k := by
      rw [← Sm_add]
      refine Sm_cong (fun u _ => ?_)
      show cn (nz E u) k + (if nz E u k = true then 1 else 0) = _
      by_cases q : 0 < E u k
      · rw [if_pos q, if_pos (nz_t.mpr q)]
      · rw [if_neg q, if_neg (fun z => q (nz_t.mp z))]
    have e2 : cn (nz E k) (k + 1) = cn (nz E k) k := by
      show _ + (if nz E k k = true then 1 else 0) = _
      rw [if_neg (fun z => by have := nz_t.mp z; rw [hi] at this; omega)]; rfl
    have e3 : Sm (fun u => cntR E u (k + 1)) k = Sm (fun u => cntR E u k) k + Sm (fun u => if 0 < E u k then 1 else 0) k := by
      rw [← Sm_add]
      refine Sm_cong (fun u hu => ?_)
      show cntR E u k + (if u < k ∧ 0 < E u k then 1 else 0) = _
      by_cases q : 0 < E u k
      · rw [if_pos q, if_pos ⟨hu, q⟩]
      · rw [if_neg q, if_neg (fun z => q z.2)]
    have e4 := cntR_lo E k (k + 1) (Nat.le_refl _)
    show Sm (fun u => cn (nz E u) (k + 1)) k + cn (nz E k) (k + 1) = 2 * (cntE E (k + 1) k + cntR E k (k + 1))
    rw [cntE_Sm E k k] at ih
    rw [cntE_Sm E (k + 1) k, e3, e4, e1, e2, c1, ih]
    omega
