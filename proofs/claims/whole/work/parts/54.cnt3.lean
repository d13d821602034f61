/-! the model's count of edges is the class's -/
theorem cntR_out {E : Nat → Nat → Nat} {u n : Nat} : ∀ {k : Nat}, n ≤ k → (∀ x, n ≤ x → E u x = 0) → cntR E u k = cntR E u n
  | 0, h, _ => by rw [show n = 0 by omega]
  | k + 1, h, q => by
    by_cases e : n = k + 1
    · rw [e]
    · have ih := cntR_out (k := k) (n := n) (E := E) (u := u) (by omega) q
      show cntR E u k + (if u < k ∧ 0 < E u k then 1 else 0) = _
      rw [if_neg (fun z => by have := q k (by omega); omega), ih]; rfl
theorem cntR_no {E : Nat → Nat → Nat} {u : Nat} (q : ∀ x, E u x = 0) : ∀ k, cntR E u k = 0
  | 0 => rfl
  | k + 1 => by
    show cntR E u k + (if u < k ∧ 0 < E u k then 1 else 0) = _
    rw [if_neg (fun z => by have := q k; omega), cntR_no q k]
section KM
variable {l : Launch} {G : Gx} {mem : Mem} {n : Nat} {w : Nat → Nat} {E : Nat → Nat → Nat} {c : Nat → Nat → Prop} {D H : Nat → Nat → Nat}
theorem cntE_12 (F : Fst n w E c D H) : cntE E 12 12 = cntE E n n := by
  have hn := F.le
  rw [cntE_Sm, cntE_Sm]
  have e : ∀ k, n ≤ k → Sm (fun u => cntR E u 12) k = Sm (fun u => cntR E u n) n := by
    intro k
    induction k with
    | zero => intro h; rw [show n = 0 by omega]; rfl
    | succ k ih =>
      intro h
      by_cases q : n = k + 1
      · rw [← q]
        exact Sm_cong (fun u hu => cntR_out hn (fun x hx => F.e0 (by omega)))
      · have e2 : Sm (fun u => cntR E u 12) (k + 1) = Sm (fun u => cntR E u 12) k + cntR E k 12 := rfl
        rw [e2, ih (by omega), cntR_no (fun x => F.e0 (by omega)) 12]; rfl
  exact e 12 hn
theorem c_edgesOf {r : Nat} (hr : Ra G r) (h : RoAt mem r w E) (F : Fst n w E c D H) : CtI l M_X7_edgesOf G [.ref (gA G r)] mem (fun x m => m = mem ∧ x = nI (cntE E n n)) := by
  refine (c_edgesOf0 hr).mono ?_
  rintro x m ⟨e1, e2⟩
  refine ⟨e1, ?_⟩
  have c0 : cnA (mem r) 12 = 0 := rfl
  have a := cnA_all F.2.2.1 h.2 12 (Nat.le_refl _)
  have s := cnt_sq (E := E) F.tD.ws F.tD.wi 12
  have t := cntE_12 F
  have e3 : cnA (mem r) 156 = 2 * cntE E n n := by
    have e4 : (12 + 12 * 12 : Nat) = 156 := rfl
    rw [e4] at a
    omega
  rw [e2, e3, Nat.mul_div_cancel_left _ (by decide)]
end KM
