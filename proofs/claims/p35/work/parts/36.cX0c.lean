/-! Contraction: the tree of a vertex, and all its rounds -/
noncomputable def S0 (E : Nat → Nat → Nat) (c : Nat → Nat → Prop) (v : Nat) : Cs := (fun x => ifc (c v x) true false, fun x y => ifc (c v x) (un E x y) 0, fun _ => -9)
theorem ifc_b {p : Prop} : ifc p true false = true ↔ p := by
  by_cases h : p
  · rw [ifc_t h]; exact ⟨fun _ => h, fun _ => rfl⟩
  · rw [ifc_f h]; exact ⟨fun q => Bool.noConfusion q, fun q => absurd q h⟩
section KX
variable {l : Launch} {G : Gx} {mem : Mem} {n k : Nat} {w : Nat → Nat} {E : Nat → Nat → Nat} {c : Nat → Nat → Prop} {D H : Nat → Nat → Nat}
theorem S0_P {v x : Nat} : (S0 E c v).1 x = true ↔ c v x := ifc_b
theorem Tc_S0 (F : Fst n w E c D H) {v : Nat} (hv : v < n) : Tc n (S0 E c v) ∧ 1 ≤ cn (S0 E c v).1 12 := by
  have T := F.tD
  have up : ∀ {x y : Nat}, 0 < ifc (c v x) (E x y) 0 → c v x ∧ 0 < E x y ∧ ifc (c v x) (E x y) 0 = E x y := by
    intro x y q
    by_cases z : c v x
    · rw [ifc_t z] at q ⊢; exact ⟨z, q, rfl⟩
    · rw [ifc_f z] at q; exact absurd q (Nat.lt_irrefl 0)
  have cc : ∀ {x y : Nat}, (S0 E c v).1 x = true ∧ (S0 E c v).1 y = true → c x y := fun q => T.tr (T.sy (S0_P.mp q.1)) (S0_P.mp q.2)
  refine ⟨⟨⟨fun x y => ifc (c v x) (E x y) 0, D, ⟨fun x hx => ⟨hx, hx⟩, fun x y q => q, fun x y q => ⟨q.2, q.1⟩, fun x y z q q2 => ⟨q.1, q2.2⟩, fun x y q => ?_, fun x y => ?_, fun x hx => T.d0 (T.v2 (S0_P.mp hx)), fun x y q => T.ds (cc q), fun x y z q q2 => ?_, fun x y q e => ?_, fun x y z z' q q1 q2 q3 q4 => ?_⟩, fun x y => ?_⟩, fun x y => ?_, fun x q => T.v2 (S0_P.mp q), F.le⟩, ?_⟩
  · obtain ⟨u1, u2, -⟩ := up q
    exact ⟨S0_P.mpr u1, S0_P.mpr (T.tr u1 (T.ed u2))⟩
  · show ifc (c v x) (E x y) 0 = ifc (c v y) (E y x) 0
    have s := T.ws x y
    by_cases q : c v x
    · by_cases q2 : c v y
      · rw [ifc_t q, ifc_t q2]; exact s
      · rw [ifc_t q, ifc_f q2]
        rcases Nat.eq_zero_or_pos (E x y) with e | e
        · exact e
        · exact absurd (T.tr q (T.ed e)) q2
    · by_cases q2 : c v y
      · rw [ifc_f q, ifc_t q2]
        rcases Nat.eq_zero_or_pos (E y x) with e | e
        · exact e.symm
        · exact absurd (T.tr q2 (T.ed e)) q
      · rw [ifc_f q, ifc_f q2]
  · obtain ⟨u1, u2, u3⟩ := up q
    show D z x = D z y + ifc (c v x) (E x y) 0 ∨ D z y = D z x + ifc (c v x) (E x y) 0
    rw [u3]
    exact T.a4 u2 (cc q2)
  · obtain ⟨z, h1, h2⟩ := T.a5 (cc q) e
    refine ⟨z, ?_⟩
    show 0 < ifc (c v x) (E x z) 0 ∧ D x y = ifc (c v x) (E x z) 0 + D z y
    rw [ifc_t (S0_P.mp q.1)]
    exact ⟨h1, h2⟩
  · obtain ⟨-, u1, u2⟩ := up q1
    obtain ⟨-, v1, v2⟩ := up q2
    change D x y = ifc (c v x) (E x z) 0 + D z y at q3
    change D x y = ifc (c v x) (E x z') 0 + D z' y at q4
    rw [u2] at q3
    rw [v2] at q4
    exact T.a6 (cc q) u1 v1 q3 q4
  · show 0 < ifc (c v x) (un E x y) 0 ↔ 0 < ifc (c v x) (E x y) 0
    by_cases q : c v x
    · rw [ifc_t q, ifc_t q]; exact (un_pos x y).symm
    · rw [ifc_f q, ifc_f q]
  · show ifc (c v x) (un E x y) 0 ≤ 2
    have := un_le (E := E) x y
    by_cases q : c v x
    · rw [ifc_t q]; omega
    · rw [ifc_f q]; omega
  · exact cn_pos (x := v) (by have := F.le; omega) (S0_P.mpr (T.rf hv))
end KX
