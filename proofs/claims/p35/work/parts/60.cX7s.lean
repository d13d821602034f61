/-! the model: vertices of a path -/
section KM
variable {l : Launch} {G : Gx} {mem : Mem} {n : Nat} {w : Nat → Nat} {E : Nat → Nat → Nat} {c : Nat → Nat → Prop} {D H : Nat → Nat → Nat}
/-- the ends of a diameter -/
def EndAns (n : Nat) (c : Nat → Nat → Prop) (D : Nat → Nat → Nat) (v : Nat) (wh : Int32) (r : Int32) : Prop := ∃ a b, AMax (c v) (Ecc n c D) n a ∧ AMax (c a) (D a) n b ∧ r = if wh = 0 then nI a else nI b
theorem EndAns.uq {v : Nat} {wh r r' : Int32} (h : EndAns n c D v wh r) (h2 : EndAns n c D v wh r') : r = r' := by
  obtain ⟨a, b, h3, h4, h5⟩ := h
  obtain ⟨a', b', g3, g4, g5⟩ := h2
  have e := h3.uq g3
  subst e
  have e := h4.uq g4
  subst e
  rw [h5, g5]
theorem AMax_ex {p : Nat → Prop} {f : Nat → Nat} {k : Nat} (h : ∃ x, x < k ∧ p x) : ∃ a, AMax p f k a := by
  obtain ⟨x, h1, h2, h3⟩ := mxO_at (f := f) h
  obtain ⟨a, b1, ⟨b2, b3, b4⟩, b5⟩ := least_of (p := fun x => x < k ∧ p x ∧ f x = mxO p f k) x ⟨h1, h2, h3⟩
  refine ⟨a, b2, b3, fun y hy hp => by rw [b4]; exact mxO_ub hy hp, fun y hy hp => ?_⟩
  have le : f y ≤ mxO p f k := mxO_ub (by omega) hp
  have ne : ¬ f y = mxO p f k := fun e => b5 y hy ⟨by omega, hp, e⟩
  omega
end KM
