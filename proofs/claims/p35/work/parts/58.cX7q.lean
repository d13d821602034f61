/-! the model: an edge of the text -/
/-- vertices that have a less one in their tree -/
noncomputable def Jn (n : Nat) (c : Nat → Nat → Prop) : Nat := smO (fun v => ∃ u, u < v ∧ c u v) (fun _ => 1) n
theorem least_of {p : Nat → Prop} : ∀ k, p k → ∃ a, a ≤ k ∧ p a ∧ ∀ y, y < a → ¬ p y := by
  intro k
  induction k using Nat.strongRecOn with
  | ind k ih =>
    intro hk
    by_cases q : ∃ y, y < k ∧ p y
    · obtain ⟨y, h1, h2⟩ := q
      obtain ⟨a, b1, b2, b3⟩ := ih y h1 h2
      exact ⟨a, by omega, b2, b3⟩
    · exact ⟨k, Nat.le_refl _, hk, fun y hy z => q ⟨y, hy, z⟩⟩
theorem Jn_lt {n : Nat} {c : Nat → Nat → Prop} (hn : 1 ≤ n) : Jn n c < n := by
  have a := smO_lt (p := fun _ => True) (q := fun v => ∃ u, u < v ∧ c u v) (f := fun _ => 1) (k := n) (x := 0) (fun _ _ _ => trivial) (by omega) trivial (fun ⟨u, h, _⟩ => Nat.not_lt_zero u h) (by decide)
  have b := smO_le (p := fun _ : Nat => True) (f := fun _ => 1) (B := 1) (k := n) (fun _ _ _ => Nat.le_refl _)
  unfold Jn
  omega
theorem Jn_link {n : Nat} {w : Nat → Nat} {E : Nat → Nat → Nat} {c c' : Nat → Nat → Prop} {D H : Nat → Nat → Nat} (F : Fst n w E c D H) {u v : Nat} (hu : u < n) (hv : v < n) (hn : ¬ c u v) (h1 : ∀ x y, c x y → c' x y) (h2 : ∀ x y, c x u → c y v → c' x y ∧ c' y x) : Jn n c < Jn n c' := by
  have T := F.tD
  obtain ⟨a, a1, a2, a3⟩ := least_of (p := fun x => c x u) u (T.rf hu)
  obtain ⟨b, b1, b2, b3⟩ := least_of (p := fun x => c x v) v (T.rf hv)
  have ne : a ≠ b := fun e => hn (T.tr (T.sy a2) (by rw [e]; exact b2))
  have mono : ∀ y, y < n → (∃ u, u < y ∧ c u y) → ∃ u, u < y ∧ c' u y := fun y _ ⟨x, q1, q2⟩ => ⟨x, q1, h1 x y q2⟩
  unfold Jn
  rcases Nat.lt_or_gt_of_ne ne with q | q
  · exact smO_lt (x := b) mono (by omega) ⟨a, q, (h2 a b a2 b2).1⟩ (fun ⟨x, q1, q2⟩ => b3 x q1 (T.tr q2 b2)) (by decide)
  · exact smO_lt (x := a) mono (by omega) ⟨b, q, (h2 a b a2 b2).2⟩ (fun ⟨x, q1, q2⟩ => a3 x q1 (T.tr q2 a2)) (by decide)
section KM
variable {l : Launch} {G : Gx} {mem : Mem} {n len p : Nat} {tx : Nat → Nat} {w : Nat → Nat} {E : Nat → Nat → Nat} {c : Nat → Nat → Prop} {D H : Nat → Nat → Nat}
end KM
