/-! Contraction: the edges are copied -/
section KX
variable {l : Launch} {G : Gx} {mem : Mem} {n k : Nat} {w : Nat → Nat} {E : Nat → Nat → Nat} {c : Nat → Nat → Prop} {D H : Nat → Nat → Nat}
theorem c_ctCopy (hG : Mn G) {g : Nat} (hg : Fo G g) (hd : g + 15 ≤ 59 ∨ 76 ≤ g) (hf : FoAt mem g n w E) (F : Fst n w E c D H) : CtV l M_X0_copyEdges G [.ref (gA G 59), .ref (gA G g)] mem (fun m => m 59 0 = nI n ∧ (∀ x y, x < n → y < n → m (64 + x) y = nI (un E x y)) ∧ Out 59 76 mem m) := by
  have hn := F.le
  refine CtV_of (by decide) (Nat.le_of_ble_eq_true rfl) rfl (t_X0_copyEdges_0 hG hg mem ?_)
  refine ⟨_, c_vertices hg hf, ?_⟩
  rintro r m0 ⟨rfl, rfl⟩
  refine up_loop (P := fun u => ∀ m2 : Mem, m2 59 0 = nI n → (∀ x y, x < u → y < n → m2 (64 + x) y = nI (un E x y)) → Out 59 76 m0 m2 → XV l M_X0_copyEdges G _ m2 10 [(0, .ref (gA G 59)), (1, .ref (gA G g)), (2, .int (nI u))] []) (n := n) (Nat.zero_le _) ?_ ?_ _ (by rw [wr_at, if_pos ⟨rfl, rfl⟩]) (fun x y q _ => absurd q (Nat.not_lt_zero x)) (Out.rf.wr (by omega) (by omega))
  · intro m2 i1 i2 i3
    refine t_X0_copyEdges_10 hG hg _ m2 ?_
    exact ⟨fun _ => ⟨i1, i2, i3⟩, fun z => absurd (by rw [i1]; exact (i_nle (by omega) (by omega)).mpr (Nat.le_refl _)) z⟩
  · intro u _ hu ih m2 i1 i2 i3
    refine t_X0_copyEdges_10 hG hg _ m2 ?_
    rw [i1]
    refine ⟨fun z => absurd ((i_nle (by omega) (by omega)).mp z) (by omega), fun _ => ?_⟩
    refine up_loop (P := fun v => ∀ m2 : Mem, m2 59 0 = nI n → (∀ x y, x < n → y < n → (x < u ∨ (x = u ∧ y < v)) → m2 (64 + x) y = nI (un E x y)) → Out 59 76 m0 m2 → XV l M_X0_copyEdges G _ m2 20 [(0, .ref (gA G 59)), (1, .ref (gA G g)), (2, .int (nI u)), (3, .int (nI v))] []) (n := n) (Nat.zero_le _) ?_ ?_ m2 i1 (fun x y hx hy q => i2 x y (by omega) hy) i3
    · intro m2 j1 j2 j3
      refine t_X0_copyEdges_20 hG hg _ _ m2 ?_
      rw [j1, nI_1]
      exact ⟨fun _ => ih m2 j1 (fun x y hx hy => j2 x y (by omega) hy (by omega)) j3, fun z => absurd ((i_nle (by omega) (by omega)).mpr (Nat.le_refl _)) z⟩
    · intro v _ hv ih2 m2 j1 j2 j3
      refine t_X0_copyEdges_20 hG hg _ _ m2 ?_
      have uin := i_in (k := u) (n := 12) (by omega) (by decide)
      have vin := i_in (k := v) (n := 12) (by omega) (by decide)
      rw [j1, i_cl (by omega), i_cl (by omega), nI_1 v]
      refine ⟨fun z => absurd ((i_nle (by omega) (by omega)).mp z) (by omega), fun _ => ⟨uin, _, c_edgeBetween hg (hf.out j3 (by omega)) hn hu hv, ?_⟩⟩
      rintro r m ⟨rfl, rfl⟩
      have be := F.2.2.1 u v
      have go : ∀ r : Int32, r = nI (un E u v) → XV l M_X0_copyEdges G (fun m2 => m2 59 0 = nI n ∧ (∀ x y, x < n → y < n → m2 (64 + x) y = nI (un E x y)) ∧ Out 59 76 m0 m2) (wr m (64 + u) v r) 20 [(0, .ref (gA G 59)), (1, .ref (gA G g)), (2, .int (nI u)), (3, .int (nI (v + 1)))] [] := fun r e => by
        refine ih2 _ (by rw [wr_n (by omega)]; exact j1) (fun x y hx hy q => ?_) (j3.wr (by omega) (by omega))
        rw [wr_at]
        by_cases q2 : 64 + x = 64 + u ∧ y = v
        · rw [if_pos q2, e, show x = u by omega, q2.2]
        · rw [if_neg q2]; exact j2 x y hx hy (by omega)
      refine ⟨fun z => ⟨vin, go 1 ?_⟩, fun z => ⟨vin, go 0 ?_⟩⟩
      · have : 0 < E u v := Nat.pos_of_ne_zero (fun q => z (by rw [q]; rfl))
        rw [un_1 this]; rfl
      · have e : E u v = 0 := (i_neq (b := 0) (by omega) (by decide)).mp z
        have e3 : un E u v = 0 := by have := (un_pos (E := E) u v).mpr; have b9 := un_le (E := E) u v; omega
        rw [e3]; rfl
end KX
