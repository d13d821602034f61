/-! the model's count of edges is the class's -/
theorem cntR_out {E : Nat → Nat → Nat} {u n : Nat} : ∀ {k : Nat}, n ≤ k → (∀ x, n ≤ x → E u x = 0) → cntR E u k = cntR E u n
  | 0, h, _ => by rw [show n = 0 by omega]
  | k + 1, h, q => by
    by_cases e : n = k + 1
    · rw [e]
    · have ih := cntR_out (k := k) (n := n) (E := E) (u := u) (by omega) q
      show cntR E u k + (if u < k ∧ 0 < E u k then 1 else 0) = _
      rw [if_neg (fun z => by have := q k (by omega); omega), ih]; rfl
theorem cntR_no {E : Nat → Nat → Nat} {u : Nat} (q : ∀ x, E u x = 0) : ∀ k, cntR E u k = 0
  | 0 => rfl
  | k + 1 => by
    show cntR E u k + (if u < k ∧ 0 < E u k then 1 else 0) = _
    rw [if_neg (fun z => by have := q k; omega), cntR_no q k]
section KM
variable {l : Launch} {G : Gx} {mem : Mem} {n : Nat} {w : Nat → Nat} {E : Nat → Nat → Nat} {c : Nat → Nat → Prop} {D H : Nat → Nat → Nat}
theorem cntE_12 (F : Fst n w E c D H) : cntE E 12 12 = cntE E n n := by
  have hn := F.le
  rw [cntE_Sm, cntE_Sm]
  have e : ∀ k, n ≤ k → Sm (fun u => cntR E u 12) k = Sm (fun u => cntR E u n) n := by
    intro k
    induction k with
    | zero => intro h; rw [show n = 0 by omega]; rfl
    | succ k ih =>
      intro h
      by_cases q : n = k + 1
      · rw [← q]
        exact Sm_cong (fun u hu => cntR_out hn (fun x hx => F.e0 (by omega)))
      · have e2 : Sm (fun u => cntR E u 12) (k + 1) = Sm (fun u => cntR E u 12) k + cntR E k 12 := rfl
        rw [e2, ih (by omega), cntR_no (fun x => F.e0 (by omega)) 12]; rfl
  exact e 12 hn
end KM
