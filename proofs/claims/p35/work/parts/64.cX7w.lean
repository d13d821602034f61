/-! the model: errors, possible weights -/
abbrev Vx (n : Nat) (x : Int32) : Prop := 0 ≤ x.toInt ∧ x.toInt < n
theorem Vx.ex {n : Nat} {x : Int32} (h : Vx n x) : ∃ k, k < n ∧ x = nI k := i_arg h.1 h.2
theorem Vx.of {n k : Nat} (h : k < n) (hn : n ≤ 12) : Vx n (nI k) := vtx h hn
/-- what linkError answers -/
def LinkErr (n : Nat) (c : Nat → Nat → Prop) (u v x r : Int32) : Prop := (¬ (Vx n u ∧ Vx n v) ∧ r = -1) ∨ ∃ i j, (i < n ∧ j < n ∧ u = nI i ∧ v = nI j) ∧ ((¬ (1 ≤ x.toInt ∧ x.toInt ≤ 99) ∧ r = -2) ∨ ((1 ≤ x.toInt ∧ x.toInt ≤ 99) ∧ ((c i j ∧ r = -3) ∨ (¬ c i j ∧ r = 0))))
/-- what edgeError answers -/
def EdgeErr (n : Nat) (E : Nat → Nat → Nat) (u v x r : Int32) : Prop := (¬ (Vx n u ∧ Vx n v) ∧ r = -1) ∨ ∃ i j, (i < n ∧ j < n ∧ u = nI i ∧ v = nI j) ∧ ((¬ (1 ≤ x.toInt ∧ x.toInt ≤ 99) ∧ r = -2) ∨ ((1 ≤ x.toInt ∧ x.toInt ≤ 99) ∧ ((E i j = 0 ∧ r = -3) ∨ (0 < E i j ∧ r = 0))))
theorem i_64_99 : (99 : Int64).toInt = 99 := rfl
section KM
variable {l : Launch} {G : Gx} {mem : Mem} {n : Nat} {w : Nat → Nat} {E : Nat → Nat → Nat} {c : Nat → Nat → Prop} {D H : Nat → Nat → Nat}
/-- the observation, when the edge has another weight -/
theorem ObH_rew (F : Fst n w E c D H) {a b k x y d : Nat} (e : 0 < E a b) {D' : Nat → Nat → Nat} (r1 : ∀ x y, c x y → (c x a → (D x a < D x b ↔ D y a < D y b)) → D' x y = D x y) (r2 : ∀ x y, c x a → c y a → D x a < D x b → ¬ D y a < D y b → D' x y = D x a + k + D b y) (r3 : ∀ x y, c x a → c y a → ¬ D x a < D x b → D y a < D y b → D' x y = D x b + k + D a y) : (c x y ∧ D' x y = d) ↔ ObH E c D a b k x y d := by
  have T := F.tD
  unfold ObH
  refine ⟨fun ⟨q, h⟩ => ⟨q, ?_⟩, fun ⟨q, h⟩ => ⟨q, ?_⟩⟩
  · by_cases o : Over c D a b x y
    · obtain ⟨o1, o2⟩ := o
      refine Or.inl ⟨⟨o1, o2⟩, ?_⟩
      have o3 : c y a := T.tr (T.sy q) o1
      by_cases p : D x a < D x b
      · have p2 : ¬ D y a < D y b := fun z => o2 ⟨fun _ => z, fun _ => p⟩
        have h1 := r2 x y o1 o3 p p2
        have h2 := T.across e o1 o3 p p2
        omega
      · have p2 : D y a < D y b := Classical.byContradiction fun z => o2 ⟨fun y => absurd y p, fun y => absurd y z⟩
        have h1 := r3 x y o1 o3 p p2
        have h2 := T.across e o3 o1 p2 p
        have s1 := T.ds q
        have s2 := T.ds (T.tr o1 (T.ed e))
        have s3 := T.ds o3
        omega
    · refine Or.inr ⟨o, ?_⟩
      have h1 := r1 x y q (fun z => Classical.byContradiction fun z2 => o ⟨z, z2⟩)
      omega
  · rcases h with ⟨⟨o1, o2⟩, h⟩ | ⟨o, h⟩
    · have o3 : c y a := T.tr (T.sy q) o1
      by_cases p : D x a < D x b
      · have p2 : ¬ D y a < D y b := fun z => o2 ⟨fun _ => z, fun _ => p⟩
        have h1 := r2 x y o1 o3 p p2
        have h2 := T.across e o1 o3 p p2
        omega
      · have p2 : D y a < D y b := Classical.byContradiction fun z => o2 ⟨fun y => absurd y p, fun y => absurd y z⟩
        have h1 := r3 x y o1 o3 p p2
        have h2 := T.across e o3 o1 p2 p
        have s1 := T.ds q
        have s2 := T.ds (T.tr o1 (T.ed e))
        have s3 := T.ds o3
        omega
    · have h1 := r1 x y q (fun z => Classical.byContradiction fun z2 => o ⟨z, z2⟩)
      omega
theorem updE_two {E : Nat → Nat → Nat} {u v a b : Nat} : updE (updE E u v a) u v b = updE E u v b := by
  funext x y
  unfold updE
  by_cases q : (x = u ∧ y = v) ∨ (x = v ∧ y = u)
  · rw [if_pos q, if_pos q]
  · rw [if_neg q, if_neg q, if_neg q]
end KM
