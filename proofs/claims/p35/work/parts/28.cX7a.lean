/-! the model's rows, and its distances -/
theorem smO_lt {p q : Nat → Prop} {f : Nat → Nat} : ∀ {k x : Nat}, (∀ y, y < k → q y → p y) → x < k → p x → ¬ q x → 0 < f x → smO q f k < smO p f k
  | 0, x, _, h, _, _, _ => absurd h (Nat.not_lt_zero x)
  | k + 1, x, h, hx, hp, hq, hf => by
    unfold smO
    have le : ∀ j, j ≤ k + 1 → smO q f j ≤ smO p f j := by
      intro j
      induction j with
      | zero => intro _; exact Nat.le_refl _
      | succ j ih =>
        intro hj
        have := ih (by omega)
        unfold smO
        by_cases c : q j
        · rw [ifc_t c, ifc_t (h j (by omega) c)]; omega
        · rw [ifc_f c]; omega
    by_cases e : x = k
    · subst e
      have := le x (by omega)
      rw [ifc_t hp, ifc_f hq]; omega
    · have ih := smO_lt (k := k) (x := x) (p := p) (q := q) (f := f) (fun y hy => h y (by omega)) (by omega) hp hq hf
      by_cases c : q k
      · rw [ifc_t c, ifc_t (h k (by omega) c)]; omega
      · rw [ifc_f c]; omega
theorem lg_lt (x y : Int64) : lg_cmp x y < 0 ↔ x.toInt < y.toInt := by
  unfold lg_cmp
  by_cases h : x > y
  · rw [if_pos h]
    have h' : y < x := h
    rw [Int64.lt_iff_toInt_lt] at h'
    exact ⟨fun z => absurd z (by decide), fun z => by omega⟩
  · rw [if_neg h]
    have h' : ¬ y < x := h
    rw [Int64.lt_iff_toInt_lt] at h'
    by_cases e : x = y
    · subst e; rw [if_pos rfl]; exact ⟨fun z => absurd z (by decide), fun z => by omega⟩
    · rw [if_neg e]
      refine ⟨fun _ => ?_, fun _ => by decide⟩
      have : x.toInt ≠ y.toInt := fun z => e (Int64.toInt_inj.mp z)
      omega
theorem lg_gt (x y : Int64) : 0 < lg_cmp x y ↔ y.toInt < x.toInt := by
  unfold lg_cmp
  by_cases h : x > y
  · rw [if_pos h]
    have h' : y < x := h
    rw [Int64.lt_iff_toInt_lt] at h'
    exact ⟨fun _ => h', fun _ => by decide⟩
  · rw [if_neg h]
    have h' : ¬ y < x := h
    rw [Int64.lt_iff_toInt_lt] at h'
    refine ⟨fun z => ?_, fun z => absurd z h'⟩
    by_cases e : x = y
    · rw [if_pos e] at z; exact absurd z (by decide)
    · rw [if_neg e] at z; exact absurd z (by decide)
theorem i_64 (x : Int32) : x.toInt64.toInt = x.toInt := Int32.toInt_toInt64 x
section CM
variable {l : Launch} {G : Gx} {mem : Mem} {n : Nat} {w : Nat → Nat} {E : Nat → Nat → Nat} {c : Nat → Nat → Prop} {D H : Nat → Nat → Nat}
noncomputable def unv (m : Mem) : Nat := smO (fun v => m 336 v = -9) (fun _ => 1) 12
theorem i_n9 {k : Nat} (h : k < 2147483648) : nI k ≠ -9 := fun z => by rw [i_eq, i_nI h, i_m9] at z; omega
end CM
