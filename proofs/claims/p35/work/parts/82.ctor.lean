/-! constructors: SetupText, Observations, Contraction -/
set_option maxRecDepth 100000 in
set_option maxHeartbeats 4000000 in
theorem i_Text {l : Launch} {G : Gx} {mem : Mem} (hK : gK G = 77) (hO : gO G 76 = some (.inr (4, [.int 0, .null, .int 0, .null]))) (hCl : Cl G) : Ctg l M_X4_init G 2 92 [.ref (gA G 76)] mem (fun o G' m' => o = none ∧ Gr G G' 76 79 mem m' ∧ ∀ i, 76 ≤ i → m' i = fun _ => 0) := by
  refine Ctg.of (by decide) (Nat.le_of_ble_eq_true rfl) rfl ?_
  have B0 := Bd.nil hK hO hCl (fun _ => rI (gC G) 0 (fun _ => 0)) (fun _ => 0)
  refine x_aload_n (pc := 0) dX4_init_0 0 rfl rfl ?_
  refine x_objI (pc := 1) dX4_init_1 tb_137 tb_51 tb_52 (Nat.le_of_ble_eq_true rfl) (Nat.le_of_ble_eq_true rfl) (by decide) ?_
  refine x_aload_n (pc := 4) dX4_init_4 0 rfl rfl ?_
  refine x_bipush (pc := 5) (v := 80) dX4_init_5 (by decide) ?_
  refine x_newaI (pc := 7) (N := 80) B0.cl dX4_init_7 tb_84 (by decide) rfl (Nat.le_of_ble_eq_true rfl) (Nat.le_of_ble_eq_true rfl) (Nat.le_of_ble_eq_true rfl) (fun q1 => ?_)
  have B1n := B0.put q1 (rI (gC G) 80 (fun _ => 0))
  generalize gPut G q1 (rI (gC G) 80 (fun _ => 0)) = g1n at B1n ⊢
  refine x_eq (st2 := [.ref q1, .ref (gA g1n 76)]) rfl rfl (by rw [B1n.a]) ?_
  refine x_putR (pc := 9) 76 1 (ty := tyX4 1) rfl dX4_init_9 B1n.k B1n.o rfl inX4 tyX4 tyX4_ok nmX4 (by decide) tb_139 rfl rfl rfl (tyX4_ok 1 (by decide)) rfl rfl (Nat.le_of_ble_eq_true rfl) ?_
  have B2n := B1n.set (.inr (4, [.int 0, .ref q1, .int 0, .null]))
  refine x_cast (G' := gSet g1n 76 (.inr (4, [.int 0, .ref q1, .int 0, .null]))) rfl ?_
  generalize gSet g1n 76 (.inr (4, [.int 0, .ref q1, .int 0, .null])) = g2n at B2n ⊢
  refine x_aload_n (pc := 12) dX4_init_12 0 rfl rfl ?_
  refine x_bipush (pc := 13) (v := 12) dX4_init_13 (by decide) ?_
  refine x_newaI (pc := 15) (N := 12) B2n.cl dX4_init_15 tb_84 (by decide) rfl (Nat.le_of_ble_eq_true rfl) (Nat.le_of_ble_eq_true rfl) (Nat.le_of_ble_eq_true rfl) (fun q3 => ?_)
  have B3n := B2n.put q3 (rI (gC g2n) 12 (fun _ => 0))
  generalize gPut g2n q3 (rI (gC g2n) 12 (fun _ => 0)) = g3n at B3n ⊢
  rw [B2n.1.2] at B3n
  refine x_eq (st2 := [.ref q3, .ref (gA g3n 76)]) rfl rfl (by rw [B3n.a]) ?_
  refine x_putR (pc := 17) 76 3 (ty := tyX4 3) rfl dX4_init_17 B3n.k B3n.o rfl inX4 tyX4 tyX4_ok nmX4 (by decide) tb_141 rfl rfl rfl (tyX4_ok 3 (by decide)) rfl rfl (Nat.le_of_ble_eq_true rfl) ?_
  have B4n := B3n.set (.inr (4, [.int 0, .ref q1, .int 0, .ref q3]))
  refine x_cast (G' := gSet g3n 76 (.inr (4, [.int 0, .ref q1, .int 0, .ref q3]))) rfl ?_
  generalize gSet g3n 76 (.inr (4, [.int 0, .ref q1, .int 0, .ref q3])) = g4n at B4n ⊢
  have a77 : gA g4n 77 = q1 := (B4n.2.2.2.2.2.2 77 (by omega) (by omega)).2.trans rfl
  have a78 : gA g4n 78 = q3 := (B4n.2.2.2.2.2.2 78 (by omega) (by omega)).2.trans rfl
  refine B4n.view ?_ ?_ ?_
  · refine Eq.trans (b := .inr (4, [.int 0, .ref (gA g4n 77), .int 0, .ref (gA g4n 78)])) rfl ?_
    rw [a77, a78]
  · intro j h1 h2
    have cs : j = 77 ∨ j = 78 := by omega
    rcases cs with rfl | rfl
    · rfl
    · rfl
  · exact x_vret (pc := 20) dX4_init_20 rfl rfl rfl ⟨rfl, B4n.gr (fun j h1 h2 => by unfold top; repeat (first | (rw [if_neg (by omega)]) | (rw [if_pos (by omega)]; try omega))), fun i hi => if_neg (by omega)⟩
set_option maxRecDepth 100000 in
set_option maxHeartbeats 4000000 in
theorem i_Obs {l : Launch} {G : Gx} {mem : Mem} (hK : gK G = 292) (hO : gO G 291 = some (.inr (3, [.null, .null, .null, .int 0, .int 0]))) (hCl : Cl G) : Ctg l M_X3_init G 3 18 [.ref (gA G 291)] mem (fun o G' m' => o = none ∧ Gr G G' 291 295 mem m' ∧ ∀ i, 291 ≤ i → m' i = fun _ => 0) := by
  refine Ctg.of (by decide) (Nat.le_of_ble_eq_true rfl) rfl ?_
  have B0 := Bd.nil hK hO hCl (fun _ => rI (gC G) 0 (fun _ => 0)) (fun _ => 0)
  refine x_aload_n (pc := 0) dX3_init_0 0 rfl rfl ?_
  refine x_objI (pc := 1) dX3_init_1 tb_175 tb_51 tb_52 (Nat.le_of_ble_eq_true rfl) (Nat.le_of_ble_eq_true rfl) (by decide) ?_
  refine x_aload_n (pc := 4) dX3_init_4 0 rfl rfl ?_
  refine x_bipush (pc := 5) (v := 6) dX3_init_5 (by decide) ?_
  refine x_newaI (pc := 7) (N := 6) B0.cl dX3_init_7 tb_84 (by decide) rfl (Nat.le_of_ble_eq_true rfl) (Nat.le_of_ble_eq_true rfl) (Nat.le_of_ble_eq_true rfl) (fun q1 => ?_)
  have B1n := B0.put q1 (rI (gC G) 6 (fun _ => 0))
  generalize gPut G q1 (rI (gC G) 6 (fun _ => 0)) = g1n at B1n ⊢
  refine x_eq (st2 := [.ref q1, .ref (gA g1n 291)]) rfl rfl (by rw [B1n.a]) ?_
  refine x_putR (pc := 9) 291 0 (ty := tyX3 0) rfl dX3_init_9 B1n.k B1n.o rfl inX3 tyX3 tyX3_ok nmX3 (by decide) tb_176 rfl rfl rfl (tyX3_ok 0 (by decide)) rfl rfl (Nat.le_of_ble_eq_true rfl) ?_
  have B2n := B1n.set (.inr (3, [.ref q1, .null, .null, .int 0, .int 0]))
  refine x_cast (G' := gSet g1n 291 (.inr (3, [.ref q1, .null, .null, .int 0, .int 0]))) rfl ?_
  generalize gSet g1n 291 (.inr (3, [.ref q1, .null, .null, .int 0, .int 0])) = g2n at B2n ⊢
  refine x_aload_n (pc := 12) dX3_init_12 0 rfl rfl ?_
  refine x_bipush (pc := 13) (v := 6) dX3_init_13 (by decide) ?_
  refine x_newaI (pc := 15) (N := 6) B2n.cl dX3_init_15 tb_84 (by decide) rfl (Nat.le_of_ble_eq_true rfl) (Nat.le_of_ble_eq_true rfl) (Nat.le_of_ble_eq_true rfl) (fun q3 => ?_)
  have B3n := B2n.put q3 (rI (gC g2n) 6 (fun _ => 0))
  generalize gPut g2n q3 (rI (gC g2n) 6 (fun _ => 0)) = g3n at B3n ⊢
  rw [B2n.1.2] at B3n
  refine x_eq (st2 := [.ref q3, .ref (gA g3n 291)]) rfl rfl (by rw [B3n.a]) ?_
  refine x_putR (pc := 17) 291 1 (ty := tyX3 1) rfl dX3_init_17 B3n.k B3n.o rfl inX3 tyX3 tyX3_ok nmX3 (by decide) tb_177 rfl rfl rfl (tyX3_ok 1 (by decide)) rfl rfl (Nat.le_of_ble_eq_true rfl) ?_
  have B4n := B3n.set (.inr (3, [.ref q1, .ref q3, .null, .int 0, .int 0]))
  refine x_cast (G' := gSet g3n 291 (.inr (3, [.ref q1, .ref q3, .null, .int 0, .int 0]))) rfl ?_
  generalize gSet g3n 291 (.inr (3, [.ref q1, .ref q3, .null, .int 0, .int 0])) = g4n at B4n ⊢
  refine x_aload_n (pc := 20) dX3_init_20 0 rfl rfl ?_
  refine x_bipush (pc := 21) (v := 6) dX3_init_21 (by decide) ?_
  refine x_newaI (pc := 23) (N := 6) B4n.cl dX3_init_23 tb_84 (by decide) rfl (Nat.le_of_ble_eq_true rfl) (Nat.le_of_ble_eq_true rfl) (Nat.le_of_ble_eq_true rfl) (fun q5 => ?_)
  have B5n := B4n.put q5 (rI (gC g4n) 6 (fun _ => 0))
  generalize gPut g4n q5 (rI (gC g4n) 6 (fun _ => 0)) = g5n at B5n ⊢
  rw [B4n.1.2] at B5n
  refine x_eq (st2 := [.ref q5, .ref (gA g5n 291)]) rfl rfl (by rw [B5n.a]) ?_
  refine x_putR (pc := 25) 291 2 (ty := tyX3 2) rfl dX3_init_25 B5n.k B5n.o rfl inX3 tyX3 tyX3_ok nmX3 (by decide) tb_178 rfl rfl rfl (tyX3_ok 2 (by decide)) rfl rfl (Nat.le_of_ble_eq_true rfl) ?_
  have B6n := B5n.set (.inr (3, [.ref q1, .ref q3, .ref q5, .int 0, .int 0]))
  refine x_cast (G' := gSet g5n 291 (.inr (3, [.ref q1, .ref q3, .ref q5, .int 0, .int 0]))) rfl ?_
  generalize gSet g5n 291 (.inr (3, [.ref q1, .ref q3, .ref q5, .int 0, .int 0])) = g6n at B6n ⊢
  have a292 : gA g6n 292 = q1 := (B6n.2.2.2.2.2.2 292 (by omega) (by omega)).2.trans rfl
  have a293 : gA g6n 293 = q3 := (B6n.2.2.2.2.2.2 293 (by omega) (by omega)).2.trans rfl
  have a294 : gA g6n 294 = q5 := (B6n.2.2.2.2.2.2 294 (by omega) (by omega)).2.trans rfl
  refine B6n.view ?_ ?_ ?_
  · refine Eq.trans (b := .inr (3, [.ref (gA g6n 292), .ref (gA g6n 293), .ref (gA g6n 294), .int 0, .int 0])) rfl ?_
    rw [a292, a293, a294]
  · intro j h1 h2
    have cs : j = 292 ∨ j = 293 ∨ j = 294 := by omega
    rcases cs with rfl | rfl | rfl
    · rfl
    · rfl
    · rfl
  · exact x_vret (pc := 28) dX3_init_28 rfl rfl rfl ⟨rfl, B6n.gr (fun j h1 h2 => by unfold top; repeat (first | (rw [if_neg (by omega)]) | (rw [if_pos (by omega)]; try omega))), fun i hi => if_neg (by omega)⟩
set_option maxRecDepth 100000 in
set_option maxHeartbeats 4000000 in
theorem i_Ctr {l : Launch} {G : Gx} {mem : Mem} (hK : gK G = 60) (hO : gO G 59 = some (.inr (0, [.int 0, .int 0, .int 0, .null, .null, .null, .null]))) (hCl : Cl G) : Ctg l M_X0_init G 16 192 [.ref (gA G 59)] mem (fun o G' m' => o = none ∧ Gr G G' 59 76 mem m' ∧ ∀ i, 59 ≤ i → m' i = fun _ => 0) := by
  refine Ctg.of (by decide) (Nat.le_of_ble_eq_true rfl) rfl ?_
  have B0 := Bd.nil hK hO hCl (fun _ => rI (gC G) 0 (fun _ => 0)) (fun _ => 0)
  refine x_aload_n (pc := 0) dX0_init_0 0 rfl rfl ?_
  refine x_objI (pc := 1) dX0_init_1 tb_107 tb_51 tb_52 (Nat.le_of_ble_eq_true rfl) (Nat.le_of_ble_eq_true rfl) (by decide) ?_
  refine x_aload_n (pc := 4) dX0_init_4 0 rfl rfl ?_
  refine x_bipush (pc := 5) (v := 12) dX0_init_5 (by decide) ?_
  refine x_newaZ (pc := 7) (N := 12) B0.cl dX0_init_7 tb_131 (by decide) rfl (Nat.le_of_ble_eq_true rfl) (Nat.le_of_ble_eq_true rfl) (Nat.le_of_ble_eq_true rfl) (fun q1 => ?_)
  have B1n := B0.put q1 (rZ (gC G) 12 (fun _ => 0))
  generalize gPut G q1 (rZ (gC G) 12 (fun _ => 0)) = g1n at B1n ⊢
  refine x_eq (st2 := [.ref q1, .ref (gA g1n 59)]) rfl rfl (by rw [B1n.a]) ?_
  refine x_putR (pc := 9) 59 3 (ty := tyX0 3) rfl dX0_init_9 B1n.k B1n.o rfl inX0 tyX0 tyX0_ok nmX0 (by decide) tb_112 rfl rfl rfl (tyX0_ok 3 (by decide)) rfl rfl (Nat.le_of_ble_eq_true rfl) ?_
  have B2n := B1n.set (.inr (0, [.int 0, .int 0, .int 0, .ref q1, .null, .null, .null]))
  refine x_cast (G' := gSet g1n 59 (.inr (0, [.int 0, .int 0, .int 0, .ref q1, .null, .null, .null]))) rfl ?_
  generalize gSet g1n 59 (.inr (0, [.int 0, .int 0, .int 0, .ref q1, .null, .null, .null])) = g2n at B2n ⊢
  refine x_aload_n (pc := 12) dX0_init_12 0 rfl rfl ?_
  refine x_bipush (pc := 13) (v := 12) dX0_init_13 (by decide) ?_
  refine x_newaZ (pc := 15) (N := 12) B2n.cl dX0_init_15 tb_131 (by decide) rfl (Nat.le_of_ble_eq_true rfl) (Nat.le_of_ble_eq_true rfl) (Nat.le_of_ble_eq_true rfl) (fun q3 => ?_)
  have B3n := B2n.put q3 (rZ (gC g2n) 12 (fun _ => 0))
  generalize gPut g2n q3 (rZ (gC g2n) 12 (fun _ => 0)) = g3n at B3n ⊢
  rw [B2n.1.2] at B3n
  refine x_eq (st2 := [.ref q3, .ref (gA g3n 59)]) rfl rfl (by rw [B3n.a]) ?_
  refine x_putR (pc := 17) 59 4 (ty := tyX0 4) rfl dX0_init_17 B3n.k B3n.o rfl inX0 tyX0 tyX0_ok nmX0 (by decide) tb_113 rfl rfl rfl (tyX0_ok 4 (by decide)) rfl rfl (Nat.le_of_ble_eq_true rfl) ?_
  have B4n := B3n.set (.inr (0, [.int 0, .int 0, .int 0, .ref q1, .ref q3, .null, .null]))
  refine x_cast (G' := gSet g3n 59 (.inr (0, [.int 0, .int 0, .int 0, .ref q1, .ref q3, .null, .null]))) rfl ?_
  generalize gSet g3n 59 (.inr (0, [.int 0, .int 0, .int 0, .ref q1, .ref q3, .null, .null])) = g4n at B4n ⊢
  refine x_aload_n (pc := 20) dX0_init_20 0 rfl rfl ?_
  refine x_bipush (pc := 21) (v := 12) dX0_init_21 (by decide) ?_
  refine x_newaI (pc := 23) (N := 12) B4n.cl dX0_init_23 tb_84 (by decide) rfl (Nat.le_of_ble_eq_true rfl) (Nat.le_of_ble_eq_true rfl) (Nat.le_of_ble_eq_true rfl) (fun q5 => ?_)
  have B5n := B4n.put q5 (rI (gC g4n) 12 (fun _ => 0))
  generalize gPut g4n q5 (rI (gC g4n) 12 (fun _ => 0)) = g5n at B5n ⊢
  rw [B4n.1.2] at B5n
  refine x_eq (st2 := [.ref q5, .ref (gA g5n 59)]) rfl rfl (by rw [B5n.a]) ?_
  refine x_putR (pc := 25) 59 5 (ty := tyX0 5) rfl dX0_init_25 B5n.k B5n.o rfl inX0 tyX0 tyX0_ok nmX0 (by decide) tb_114 rfl rfl rfl (tyX0_ok 5 (by decide)) rfl rfl (Nat.le_of_ble_eq_true rfl) ?_
  have B6n := B5n.set (.inr (0, [.int 0, .int 0, .int 0, .ref q1, .ref q3, .ref q5, .null]))
  refine x_cast (G' := gSet g5n 59 (.inr (0, [.int 0, .int 0, .int 0, .ref q1, .ref q3, .ref q5, .null]))) rfl ?_
  generalize gSet g5n 59 (.inr (0, [.int 0, .int 0, .int 0, .ref q1, .ref q3, .ref q5, .null])) = g6n at B6n ⊢
  refine x_aload_n (pc := 28) dX0_init_28 0 rfl rfl ?_
  refine x_bipush (pc := 29) (v := 12) dX0_init_29 (by decide) ?_
  refine x_bipush (pc := 31) (v := 12) dX0_init_31 (by decide) ?_
  refine x_multi (pc := 33) B6n.cl dX0_init_33 tb_108 tb_84 (Nat.le_of_ble_eq_true rfl) (Nat.le_of_ble_eq_true rfl) (fun q7 => ?_)
  have B7n := B6n.grid q7
  generalize gGrid g6n q7 = g7n at B7n ⊢
  refine x_eq (st2 := [.ref q7, .ref (gA g7n 59)]) rfl rfl (by rw [B7n.a]) ?_
  refine x_putR (pc := 37) 59 6 (ty := tyX0 6) rfl dX0_init_37 B7n.k B7n.o rfl inX0 tyX0 tyX0_ok nmX0 (by decide) tb_115 rfl rfl rfl (tyX0_ok 6 (by decide)) rfl rfl (Nat.le_of_ble_eq_true rfl) ?_
  have B8n := B7n.set (.inr (0, [.int 0, .int 0, .int 0, .ref q1, .ref q3, .ref q5, .ref q7]))
  refine x_cast (G' := gSet g7n 59 (.inr (0, [.int 0, .int 0, .int 0, .ref q1, .ref q3, .ref q5, .ref q7]))) rfl ?_
  generalize gSet g7n 59 (.inr (0, [.int 0, .int 0, .int 0, .ref q1, .ref q3, .ref q5, .ref q7])) = g8n at B8n ⊢
  have a60 : gA g8n 60 = q1 := (B8n.2.2.2.2.2.2 60 (by omega) (by omega)).2.trans rfl
  have a61 : gA g8n 61 = q3 := (B8n.2.2.2.2.2.2 61 (by omega) (by omega)).2.trans rfl
  have a62 : gA g8n 62 = q5 := (B8n.2.2.2.2.2.2 62 (by omega) (by omega)).2.trans rfl
  have a63 : gA g8n 63 = q7 := (B8n.2.2.2.2.2.2 63 (by omega) (by omega)).2.trans rfl
  refine B8n.view ?_ ?_ ?_
  · refine Eq.trans (b := .inr (0, [.int 0, .int 0, .int 0, .ref (gA g8n 60), .ref (gA g8n 61), .ref (gA g8n 62), .ref (gA g8n 63)])) rfl ?_
    rw [a60, a61, a62, a63]
  · intro j h1 h2
    have cs : j = 60 ∨ j = 61 ∨ j = 62 ∨ j = 63 ∨ j = 64 ∨ j = 65 ∨ j = 66 ∨ j = 67 ∨ j = 68 ∨ j = 69 ∨ j = 70 ∨ j = 71 ∨ j = 72 ∨ j = 73 ∨ j = 74 ∨ j = 75 := by omega
    rcases cs with rfl | rfl | rfl | rfl | rfl | rfl | rfl | rfl | rfl | rfl | rfl | rfl | rfl | rfl | rfl | rfl
    · rfl
    · rfl
    · rfl
    · refine Eq.trans (b := rR (gC G) 12 (fun k => if k < 12 then some (gA g8n (64 + k)) else none)) rfl (Eq.trans (b := rR (gC G) 12 (fun k => if k < 12 then some (q7 + 1 + k) else none)) ?_ rfl)
      congr 1
      funext k
      by_cases c : k < 12
      · rw [if_pos c, if_pos c, (B8n.2.2.2.2.2.2 (64 + k) (by omega) (by omega)).2]
        dsimp only [va_up]
        rw [if_neg (by omega)]
        congr 1
        omega
      · rw [if_neg c, if_neg c]
    · rfl
    · rfl
    · rfl
    · rfl
    · rfl
    · rfl
    · rfl
    · rfl
    · rfl
    · rfl
    · rfl
    · rfl
  · exact x_vret (pc := 40) dX0_init_40 rfl rfl rfl ⟨rfl, B8n.gr (fun j h1 h2 => by unfold top; repeat (first | (rw [if_neg (by omega)]) | (rw [if_pos (by omega)]; try omega))), fun i hi => if_neg (by omega)⟩
set_option maxRecDepth 100000 in
set_option maxHeartbeats 4000000 in
theorem i_Sv16 {l : Launch} {G : Gx} {mem : Mem} (hK : gK G = 17) (hO : gO G 16 = some (.inr (5, [.null, .int 0, .null]))) (hCl : Cl G) : Ctg l M_X5_init G 13 156 [.ref (gA G 16), .ref (gA G 1)] mem (fun o G' m' => o = none ∧ Gr G G' 16 30 mem m' ∧ ∀ i, 16 ≤ i → m' i = fun _ => 0) := by
  refine Ctg.of (by decide) (Nat.le_of_ble_eq_true rfl) rfl ?_
  have B0 := Bd.nil hK hO hCl (fun _ => rI (gC G) 0 (fun _ => 0)) (fun _ => 0)
  refine x_aload_n (pc := 0) dX5_init_0 0 rfl rfl ?_
  refine x_objI (pc := 1) dX5_init_1 tb_90 tb_51 tb_52 (Nat.le_of_ble_eq_true rfl) (Nat.le_of_ble_eq_true rfl) (by decide) ?_
  refine x_aload_n (pc := 4) dX5_init_4 0 rfl rfl ?_
  refine x_aload_n (pc := 5) dX5_init_5 1 rfl rfl ?_
  refine x_eq (st2 := [.ref (gA G 1), .ref (gA G 16)]) rfl rfl (by rw [B0.a]) ?_
  refine x_putR (pc := 6) 16 0 (ty := tyX5 0) rfl dX5_init_6 B0.k B0.o rfl inX5 tyX5 tyX5_ok nmX5 (by decide) tb_92 rfl rfl rfl (tyX5_ok 0 (by decide)) rfl rfl (Nat.le_of_ble_eq_true rfl) ?_
  have B1n := B0.set (.inr (5, [.ref (gA G 1), .int 0, .null]))
  refine x_cast (G' := gSet G 16 (.inr (5, [.ref (gA G 1), .int 0, .null]))) rfl ?_
  generalize gSet G 16 (.inr (5, [.ref (gA G 1), .int 0, .null])) = g1n at B1n ⊢
  refine x_aload_n (pc := 9) dX5_init_9 0 rfl rfl ?_
  refine x_bipush (pc := 10) (v := 12) dX5_init_10 (by decide) ?_
  refine x_bipush (pc := 12) (v := 12) dX5_init_12 (by decide) ?_
  refine x_multi (pc := 14) B1n.cl dX5_init_14 tb_91 tb_84 (Nat.le_of_ble_eq_true rfl) (Nat.le_of_ble_eq_true rfl) (fun q2 => ?_)
  have B2n := B1n.grid q2
  generalize gGrid g1n q2 = g2n at B2n ⊢
  refine x_eq (st2 := [.ref q2, .ref (gA g2n 16)]) rfl rfl (by rw [B2n.a]) ?_
  refine x_putR (pc := 18) 16 2 (ty := tyX5 2) rfl dX5_init_18 B2n.k B2n.o rfl inX5 tyX5 tyX5_ok nmX5 (by decide) tb_94 rfl rfl rfl (tyX5_ok 2 (by decide)) rfl rfl (Nat.le_of_ble_eq_true rfl) ?_
  have B3n := B2n.set (.inr (5, [.ref (gA G 1), .int 0, .ref q2]))
  refine x_cast (G' := gSet g2n 16 (.inr (5, [.ref (gA G 1), .int 0, .ref q2]))) rfl ?_
  generalize gSet g2n 16 (.inr (5, [.ref (gA G 1), .int 0, .ref q2])) = g3n at B3n ⊢
  have a17 : gA g3n 17 = q2 := (B3n.2.2.2.2.2.2 17 (by omega) (by omega)).2.trans rfl
  have af : gA g3n 1 = gA G 1 := B3n.2.2.1 1 (by omega)
  refine B3n.view ?_ ?_ ?_
  · refine Eq.trans (b := .inr (5, [.ref (gA g3n 1), .int 0, .ref (gA g3n 17)])) rfl ?_
    rw [af, a17]
  · intro j h1 h2
    have cs : j = 17 ∨ j = 18 ∨ j = 19 ∨ j = 20 ∨ j = 21 ∨ j = 22 ∨ j = 23 ∨ j = 24 ∨ j = 25 ∨ j = 26 ∨ j = 27 ∨ j = 28 ∨ j = 29 := by omega
    rcases cs with rfl | rfl | rfl | rfl | rfl | rfl | rfl | rfl | rfl | rfl | rfl | rfl | rfl
    · refine Eq.trans (b := rR (gC G) 12 (fun k => if k < 12 then some (gA g3n (18 + k)) else none)) rfl (Eq.trans (b := rR (gC G) 12 (fun k => if k < 12 then some (q2 + 1 + k) else none)) ?_ rfl)
      congr 1
      funext k
      by_cases c : k < 12
      · rw [if_pos c, if_pos c, (B3n.2.2.2.2.2.2 (18 + k) (by omega) (by omega)).2]
        dsimp only [va_up]
        rw [if_neg (by omega)]
        congr 1
        omega
      · rw [if_neg c, if_neg c]
    · rfl
    · rfl
    · rfl
    · rfl
    · rfl
    · rfl
    · rfl
    · rfl
    · rfl
    · rfl
    · rfl
    · rfl
  · exact x_vret (pc := 21) dX5_init_21 rfl rfl rfl ⟨rfl, B3n.gr (fun j h1 h2 => by unfold top; repeat (first | (rw [if_neg (by omega)]) | (rw [if_pos (by omega)]; try omega))), fun i hi => if_neg (by omega)⟩
set_option maxRecDepth 100000 in
set_option maxHeartbeats 4000000 in
theorem i_Sv45 {l : Launch} {G : Gx} {mem : Mem} (hK : gK G = 46) (hO : gO G 45 = some (.inr (5, [.null, .int 0, .null]))) (hCl : Cl G) : Ctg l M_X5_init G 13 156 [.ref (gA G 45), .ref (gA G 30)] mem (fun o G' m' => o = none ∧ Gr G G' 45 59 mem m' ∧ ∀ i, 45 ≤ i → m' i = fun _ => 0) := by
  refine Ctg.of (by decide) (Nat.le_of_ble_eq_true rfl) rfl ?_
  have B0 := Bd.nil hK hO hCl (fun _ => rI (gC G) 0 (fun _ => 0)) (fun _ => 0)
  refine x_aload_n (pc := 0) dX5_init_0 0 rfl rfl ?_
  refine x_objI (pc := 1) dX5_init_1 tb_90 tb_51 tb_52 (Nat.le_of_ble_eq_true rfl) (Nat.le_of_ble_eq_true rfl) (by decide) ?_
  refine x_aload_n (pc := 4) dX5_init_4 0 rfl rfl ?_
  refine x_aload_n (pc := 5) dX5_init_5 1 rfl rfl ?_
  refine x_eq (st2 := [.ref (gA G 30), .ref (gA G 45)]) rfl rfl (by rw [B0.a]) ?_
  refine x_putR (pc := 6) 45 0 (ty := tyX5 0) rfl dX5_init_6 B0.k B0.o rfl inX5 tyX5 tyX5_ok nmX5 (by decide) tb_92 rfl rfl rfl (tyX5_ok 0 (by decide)) rfl rfl (Nat.le_of_ble_eq_true rfl) ?_
  have B1n := B0.set (.inr (5, [.ref (gA G 30), .int 0, .null]))
  refine x_cast (G' := gSet G 45 (.inr (5, [.ref (gA G 30), .int 0, .null]))) rfl ?_
  generalize gSet G 45 (.inr (5, [.ref (gA G 30), .int 0, .null])) = g1n at B1n ⊢
  refine x_aload_n (pc := 9) dX5_init_9 0 rfl rfl ?_
  refine x_bipush (pc := 10) (v := 12) dX5_init_10 (by decide) ?_
  refine x_bipush (pc := 12) (v := 12) dX5_init_12 (by decide) ?_
  refine x_multi (pc := 14) B1n.cl dX5_init_14 tb_91 tb_84 (Nat.le_of_ble_eq_true rfl) (Nat.le_of_ble_eq_true rfl) (fun q2 => ?_)
  have B2n := B1n.grid q2
  generalize gGrid g1n q2 = g2n at B2n ⊢
  refine x_eq (st2 := [.ref q2, .ref (gA g2n 45)]) rfl rfl (by rw [B2n.a]) ?_
  refine x_putR (pc := 18) 45 2 (ty := tyX5 2) rfl dX5_init_18 B2n.k B2n.o rfl inX5 tyX5 tyX5_ok nmX5 (by decide) tb_94 rfl rfl rfl (tyX5_ok 2 (by decide)) rfl rfl (Nat.le_of_ble_eq_true rfl) ?_
  have B3n := B2n.set (.inr (5, [.ref (gA G 30), .int 0, .ref q2]))
  refine x_cast (G' := gSet g2n 45 (.inr (5, [.ref (gA G 30), .int 0, .ref q2]))) rfl ?_
  generalize gSet g2n 45 (.inr (5, [.ref (gA G 30), .int 0, .ref q2])) = g3n at B3n ⊢
  have a46 : gA g3n 46 = q2 := (B3n.2.2.2.2.2.2 46 (by omega) (by omega)).2.trans rfl
  have af : gA g3n 30 = gA G 30 := B3n.2.2.1 30 (by omega)
  refine B3n.view ?_ ?_ ?_
  · refine Eq.trans (b := .inr (5, [.ref (gA g3n 30), .int 0, .ref (gA g3n 46)])) rfl ?_
    rw [af, a46]
  · intro j h1 h2
    have cs : j = 46 ∨ j = 47 ∨ j = 48 ∨ j = 49 ∨ j = 50 ∨ j = 51 ∨ j = 52 ∨ j = 53 ∨ j = 54 ∨ j = 55 ∨ j = 56 ∨ j = 57 ∨ j = 58 := by omega
    rcases cs with rfl | rfl | rfl | rfl | rfl | rfl | rfl | rfl | rfl | rfl | rfl | rfl | rfl
    · refine Eq.trans (b := rR (gC G) 12 (fun k => if k < 12 then some (gA g3n (47 + k)) else none)) rfl (Eq.trans (b := rR (gC G) 12 (fun k => if k < 12 then some (q2 + 1 + k) else none)) ?_ rfl)
      congr 1
      funext k
      by_cases c : k < 12
      · rw [if_pos c, if_pos c, (B3n.2.2.2.2.2.2 (47 + k) (by omega) (by omega)).2]
        dsimp only [va_up]
        rw [if_neg (by omega)]
        congr 1
        omega
      · rw [if_neg c, if_neg c]
    · rfl
    · rfl
    · rfl
    · rfl
    · rfl
    · rfl
    · rfl
    · rfl
    · rfl
    · rfl
    · rfl
    · rfl
  · exact x_vret (pc := 21) dX5_init_21 rfl rfl rfl ⟨rfl, B3n.gr (fun j h1 h2 => by unfold top; repeat (first | (rw [if_neg (by omega)]) | (rw [if_pos (by omega)]; try omega))), fun i hi => if_neg (by omega)⟩
