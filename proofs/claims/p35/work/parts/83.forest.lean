/-! constructor: Forest -/
theorem top_F {b i : Nat} (hb : isF b = true) (hi : i < 15) : top (b + i) ≤ b + 15 := by
  unfold top
  rcases isF_iff hb with rfl | rfl | rfl | rfl | ⟨h1, h2, h3⟩
  · rw [if_neg (by omega), if_pos (by omega)]; omega
  · rw [if_neg (by omega), if_neg (by omega), if_neg (by omega), if_pos (by omega)]; omega
  · rw [if_neg (by omega), if_neg (by omega), if_neg (by omega), if_neg (by omega), if_neg (by omega), if_neg (by omega), if_neg (by omega), if_neg (by omega), if_neg (by omega), if_neg (by omega), if_neg (by omega), if_pos (by omega)]; omega
  · rw [if_neg (by omega), if_neg (by omega), if_neg (by omega), if_neg (by omega), if_neg (by omega), if_neg (by omega), if_neg (by omega), if_neg (by omega), if_neg (by omega), if_neg (by omega), if_neg (by omega), if_pos (by omega)]; omega
  · rw [if_neg (by omega), if_neg (by omega), if_neg (by omega), if_neg (by omega), if_neg (by omega), if_neg (by omega), if_neg (by omega), if_neg (by omega), if_pos (by omega)]; omega
set_option maxRecDepth 100000 in
set_option maxHeartbeats 4000000 in
theorem i_Forest {l : Launch} {G : Gx} {mem : Mem} {b : Nat} (hb : isF b = true) (hK : gK G = b + 1) (hO : gO G b = some (.inr (1, [.int 0, .null, .null]))) (hCl : Cl G) : Ctg l M_X1_init G 14 168 [.ref (gA G b)] mem (fun o G' m' => o = none ∧ Gr G G' b (b + 15) mem m' ∧ FoAt m' b 12 (fun _ => 1) (fun _ _ => 0)) := by
  refine Ctg.of (by decide) (Nat.le_of_ble_eq_true rfl) rfl ?_
  have B0 := Bd.nil hK hO hCl (fun _ => rI (gC G) 0 (fun _ => 0)) (fun _ => 0)
  refine x_aload_n (pc := 0) dX1_init_0 0 rfl rfl ?_
  refine x_objI (pc := 1) dX1_init_1 tb_58 tb_51 tb_52 (Nat.le_of_ble_eq_true rfl) (Nat.le_of_ble_eq_true rfl) (by decide) ?_
  refine x_aload_n (pc := 4) dX1_init_4 0 rfl rfl ?_
  refine x_bipush (pc := 5) (v := 12) dX1_init_5 (by decide) ?_
  refine x_newaI (pc := 7) (N := 12) B0.cl dX1_init_7 tb_84 (by decide) rfl (Nat.le_of_ble_eq_true rfl) (Nat.le_of_ble_eq_true rfl) (Nat.le_of_ble_eq_true rfl) (fun q1 => ?_)
  have B1n := B0.put q1 (rI (gC G) 12 (fun _ => 0))
  generalize gPut G q1 (rI (gC G) 12 (fun _ => 0)) = g1n at B1n ⊢
  refine x_eq (st2 := [.ref q1, .ref (gA g1n b)]) rfl rfl (by rw [B1n.a]) ?_
  refine x_putR (pc := 9) b 1 (ty := tyX1 1) rfl dX1_init_9 B1n.k B1n.o rfl inX1 tyX1 tyX1_ok nmX1 (by decide) tb_75 rfl rfl rfl (tyX1_ok 1 (by decide)) rfl rfl (Nat.le_of_ble_eq_true rfl) ?_
  have B2n := B1n.set (.inr (1, [.int 0, .ref q1, .null]))
  refine x_cast (G' := gSet g1n b (.inr (1, [.int 0, .ref q1, .null]))) rfl ?_
  generalize gSet g1n b (.inr (1, [.int 0, .ref q1, .null])) = g2n at B2n ⊢
  refine x_aload_n (pc := 12) dX1_init_12 0 rfl rfl ?_
  refine x_bipush (pc := 13) (v := 12) dX1_init_13 (by decide) ?_
  refine x_bipush (pc := 15) (v := 12) dX1_init_15 (by decide) ?_
  refine x_multi (pc := 17) B2n.cl dX1_init_17 tb_59 tb_84 (Nat.le_of_ble_eq_true rfl) (Nat.le_of_ble_eq_true rfl) (fun q3 => ?_)
  have B3n := B2n.grid q3
  generalize gGrid g2n q3 = g3n at B3n ⊢
  refine x_eq (st2 := [.ref q3, .ref (gA g3n b)]) rfl rfl (by rw [B3n.a]) ?_
  refine x_putR (pc := 21) b 2 (ty := tyX1 2) rfl dX1_init_21 B3n.k B3n.o rfl inX1 tyX1 tyX1_ok nmX1 (by decide) tb_76 rfl rfl rfl (tyX1_ok 2 (by decide)) rfl rfl (Nat.le_of_ble_eq_true rfl) ?_
  have B4n := B3n.set (.inr (1, [.int 0, .ref q1, .ref q3]))
  refine x_cast (G' := gSet g3n b (.inr (1, [.int 0, .ref q1, .ref q3]))) rfl ?_
  generalize gSet g3n b (.inr (1, [.int 0, .ref q1, .ref q3])) = g4n at B4n ⊢
  have a1 : gA g4n (b + 1) = q1 := by
    rw [(B4n.2.2.2.2.2.2 (b + 1) (by omega) (by omega)).2]
    dsimp only [va_up]
    rw [if_pos (by omega), if_pos (by omega)]
  have a2 : gA g4n (b + 2) = q3 := by
    rw [(B4n.2.2.2.2.2.2 (b + 2) (by omega) (by omega)).2]
    dsimp only [va_up]
    rw [if_neg (by omega)]
    omega
  have gr := B4n.gr (mem := mem) (fun j h1 h2 => by
    obtain ⟨i, rfl⟩ : ∃ i, j = b + i := ⟨j - b, by omega⟩
    exact top_F hb (by omega))
  have hf : Fo (gEnd G g4n b) b := ⟨hb, by show b + 14 < gK g4n; rw [B4n.2.1]; omega, fun i hi => if_neg (by omega)⟩
  refine B4n.view ?_ ?_ ?_
  · refine (cellAt_F (i := 0) hb (by decide)).trans ?_
    refine Eq.trans (b := .inr (1, [.int 0, .ref (gA g4n (b + 1)), .ref (gA g4n (b + 2))])) rfl ?_
    rw [a1, a2]
  · intro j h1 h2
    obtain ⟨i, rfl⟩ : ∃ i, j = b + i := ⟨j - b, by omega⟩
    rw [cellAt_F hb (by omega)]
    unfold cF va_up
    rw [if_neg (by omega)]
    by_cases c : i = 2
    · subst c
      rw [if_pos rfl, if_neg (by omega), if_pos (by omega)]
      refine congrArg (rR (gC G) 12) ?_
      funext k
      by_cases c : k < 12
      · rw [if_pos c, if_pos c, (B4n.2.2.2.2.2.2 (b + 3 + k) (by omega) (by omega)).2]
        dsimp only [va_up]
        rw [if_neg (by omega)]
        congr 1
        omega
      · rw [if_neg c, if_neg c]
    · rw [if_neg c]
      by_cases c1 : i = 1
      · subst c1
        rw [if_pos (by omega), if_pos (by omega)]
      · rw [if_neg (by omega), if_neg (by omega)]
  · have aE : gA (gEnd G g4n b) b = gA G b := B4n.a
    refine x_aload_n (pc := 24) dX1_init_24 0 rfl rfl ?_
    refine x_bipush (pc := 25) (v := 12) dX1_init_25 (by decide) ?_
    refine x_eq (st2 := [.int 12, .ref (gA (gEnd G g4n b) b)]) rfl rfl (by rw [aE]) ?_
    refine x_callVV (pc := 27) b (c_reset hf (k := 12) (by decide) (by decide)) ok_X1_reset dX1_init_27 tb_61 ⟨⟨rfl, rfl⟩, ⟨Nat.le_of_ble_eq_true rfl, Nat.le_of_ble_eq_true rfl⟩, Nat.le_of_ble_eq_true rfl, Nat.le_of_ble_eq_true rfl⟩ (Fo_K0 hf) (Fo_c0 hf _) rfl (As := [.int 12]) rfl rfl (Nat.le_of_ble_eq_true rfl) (fun m hq => ?_)
    obtain ⟨r1, r2, r3, r4, r5, r6, r7⟩ := gr
    exact x_vret (pc := 30) dX1_init_30 rfl rfl rfl ⟨rfl, ⟨r1, r2, r3, r4, r5, r6, fun i hi => by rw [hq.2 i (Or.inl hi)]; exact r7 i hi⟩, hq.1⟩
