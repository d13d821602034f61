/-! Contraction: the tree is gathered -/
section KX
variable {l : Launch} {G : Gx} {mem : Mem} {n k : Nat} {w : Nat → Nat} {E : Nat → Nat → Nat} {c : Nat → Nat → Prop} {D H : Nat → Nat → Nat}
/-- present is held, and counted -/
def GAt (m : Mem) (B : Nat → Bool) : Prop := m 59 1 = nI (cn B 12) ∧ ∀ x, x < 12 → m 60 x = bI (B x)
def GJ (mem : Mem) (n : Nat) (E : Nat → Nat → Nat) (c : Nat → Nat → Prop) (v : Nat) (B : Nat → Bool) (p : Nat → Nat → Prop) (m : Mem) : Prop := ∃ B' : Nat → Bool, GAt m B' ∧ (∀ x, B' x = true → c v x) ∧ (∀ x, B x = true → B' x = true) ∧ (∀ x y, x < n → y < n → p x y → B x = true → 0 < E x y → B' y = true) ∧ m 59 0 = nI n ∧ ∀ a, a ≠ 59 → a ≠ 60 → m a = mem a
theorem c_ctNear (hG : Mn G) (F : Fst n w E c D H) {v : Nat} {B : Nat → Bool} (h0 : mem 59 0 = nI n) (hE : ∀ x y, x < n → y < n → mem (64 + x) y = nI (un E x y)) (hB : GAt mem B) (hc : ∀ x, B x = true → c v x) : CtV l M_X0_gatherNeighbours G [.ref (gA G 59)] mem (fun m => ∃ B' : Nat → Bool, GAt m B' ∧ (∀ x, B' x = true → c v x) ∧ (∀ x, B x = true → B' x = true) ∧ (∀ x y, B x = true → 0 < E x y → B' y = true) ∧ m 59 0 = nI n ∧ ∀ a, a ≠ 59 → a ≠ 60 → m a = mem a) := by
  have hn := F.le
  have T := F.tD
  refine CtV_of (by decide) (Nat.le_of_ble_eq_true rfl) rfl (t_X0_gatherNeighbours_0 hG mem ?_)
  refine up_loop (P := fun u => ∀ m : Mem, GJ mem n E c v B (fun x _ => x < u) m → XV l M_X0_gatherNeighbours G _ m 2 [(0, .ref (gA G 59)), (1, .int (nI u))] []) (n := n) (Nat.zero_le _) ?_ ?_ mem ⟨B, hB, hc, fun x q => q, fun x y _ _ q => absurd q (Nat.not_lt_zero x), h0, fun _ _ _ => rfl⟩
  · rintro m ⟨B', b1, b2, b3, b4, b5, b6⟩
    refine t_X0_gatherNeighbours_2 hG _ m ?_
    exact ⟨fun _ => ⟨B', b1, b2, b3, fun x y q e => b4 x y (T.v1 (T.ed e)) (T.v2 (T.ed e)) (T.v1 (T.ed e)) q e, b5, b6⟩, fun z => absurd (by rw [b5]; exact (i_nle (by omega) (by omega)).mpr (Nat.le_refl _)) z⟩
  · rintro u _ hu ih m ⟨B', b1, b2, b3, b4, b5, b6⟩
    refine t_X0_gatherNeighbours_2 hG _ m ?_
    rw [b5]
    refine ⟨fun z => absurd ((i_nle (by omega) (by omega)).mp z) (by omega), fun _ => ?_⟩
    refine up_loop (P := fun y0 => ∀ m : Mem, GJ mem n E c v B (fun x y => x < u ∨ (x = u ∧ y < y0)) m → XV l M_X0_gatherNeighbours G _ m 12 [(0, .ref (gA G 59)), (1, .int (nI u)), (2, .int (nI y0))] []) (n := n) (Nat.zero_le _) ?_ ?_ m ⟨B', b1, b2, b3, fun x y hx hy q => b4 x y hx hy (by omega), b5, b6⟩
    · rintro m ⟨B', b1, b2, b3, b4, b5, b6⟩
      refine t_X0_gatherNeighbours_12 hG _ _ m ?_
      rw [b5, nI_1]
      exact ⟨fun _ => ih m ⟨B', b1, b2, b3, fun x y hx hy q => b4 x y hx hy (by omega), b5, b6⟩, fun z => absurd ((i_nle (by omega) (by omega)).mpr (Nat.le_refl _)) z⟩
    · rintro y0 _ hy0 ih2 m ⟨B', b1, b2, b3, b4, b5, b6⟩
      refine t_X0_gatherNeighbours_12 hG _ _ m ?_
      have uin := i_in (k := u) (n := 12) (by omega) (by decide)
      have yin := i_in (k := y0) (n := 12) (by omega) (by decide)
      have eE : m (64 + u) y0 = nI (un E u y0) := by rw [b6 _ (by omega) (by omega)]; exact hE u y0 hu hy0
      have be := un_le (E := E) u y0
      rw [b5, i_cl (by omega), i_cl (by omega), nI_1 y0, b1.2 u (by omega), b1.2 y0 (by omega), eE]
      -- nothing new
      have stay : (B u = true → 0 < E u y0 → B' y0 = true) → XV l M_X0_gatherNeighbours G (fun m => ∃ B' : Nat → Bool, GAt m B' ∧ (∀ x, B' x = true → c v x) ∧ (∀ x, B x = true → B' x = true) ∧ (∀ x y, B x = true → 0 < E x y → B' y = true) ∧ m 59 0 = nI n ∧ ∀ a, a ≠ 59 → a ≠ 60 → m a = mem a) m 12 [(0, .ref (gA G 59)), (1, .int (nI u)), (2, .int (nI (y0 + 1)))] [] := fun q => ih2 m ⟨B', b1, b2, b3, fun x y hx hy q2 q3 q4 => by
        by_cases e : x = u ∧ y = y0
        · obtain ⟨rfl, rfl⟩ := e; exact q q3 q4
        · exact b4 x y hx hy (by omega) q3 q4, b5, b6⟩
      refine ⟨fun z => absurd ((i_nle (by omega) (by omega)).mp z) (by omega), fun _ => ⟨uin, fun z => ?_, fun z => ⟨yin, fun z2 => ?_, fun z2 => ⟨uin, yin, fun z3 => ?_, fun z3 => ⟨yin, ih2 _ ?_⟩⟩⟩⟩⟩
      · exact stay (fun q => absurd (b3 u q) (bI_0.mp z))
      · exact stay (fun _ _ => Decidable.byContradiction fun q => z2 (bI_0.mpr q))
      · have e := (i_neq (b := 0) (by omega) (by decide)).mp z3
        exact stay (fun _ q => by have := (un_pos (E := E) u y0).mp q; omega)
      · have pu : B' u = true := Decidable.byContradiction fun q => z (bI_0.mpr q)
        have ny := bI_0.mp z2
        have e : 0 < E u y0 := (un_pos u y0).mpr (Nat.pos_of_ne_zero (fun q => z3 (by rw [q]; rfl)))
        obtain ⟨B2, B2t⟩ : ∃ B2 : Nat → Bool, ∀ x, B2 x = true ↔ B' x = true ∨ x = y0 := ⟨fun x => B' x || (x == y0), fun x => by simp⟩
        have cB : cn B2 12 = cn B' 12 + 1 := by
          rw [cn_rm (p := B2) (x := y0) (by omega) ((B2t _).mpr (Or.inr rfl))]
          rw [cn_pred (p := pm B2 y0) (q := B') (fun x _ => by
            rw [pm_t, B2t]
            exact ⟨fun q => q.1.elim id (fun q2 => absurd q2 q.2), fun q => ⟨Or.inl q, fun e => ny (by rw [← e]; exact q)⟩⟩)]
        have cu := cn_up B' 12
        refine ⟨B2, ⟨?_, fun x hx => ?_⟩, fun x q => ?_, fun x q => (B2t x).mpr (Or.inl (b3 x q)), fun x y hx hy q2 q3 q4 => ?_, ?_, fun a h1 h2 => ?_⟩
        · rw [wr_at, if_pos ⟨rfl, rfl⟩, wr_at, if_neg (by omega), b1.1, nI_1, cB]
        · rw [wr_at, if_neg (by omega), wr_at]
          by_cases q : x = y0
          · rw [if_pos ⟨rfl, q⟩]
            have : B2 x = true := (B2t x).mpr (Or.inr q)
            rw [this]; rfl
          · rw [if_neg (by omega), b1.2 x hx]
            have : B2 x = B' x := Bool.eq_iff_iff.mpr ((B2t x).trans ⟨fun z => z.elim id (fun z => absurd z q), Or.inl⟩)
            rw [this]
        · rcases (B2t x).mp q with q | q
          · exact b2 x q
          · rw [q]; exact T.tr (b2 u pu) (T.ed e)
        · by_cases e : x = u ∧ y = y0
          · exact (B2t y).mpr (Or.inr e.2)
          · exact (B2t y).mpr (Or.inl (b4 x y hx hy (by omega) q3 q4))
        · rw [wr_at, if_neg (by omega), wr_at, if_neg (by omega)]; exact b5
        · rw [wr_n h1, wr_n h2]; exact b6 a h1 h2
end KX
