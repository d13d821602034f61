/-! constructor: WeightedForest, the walk -/
set_option maxRecDepth 100000 in
set_option maxHeartbeats 4000000 in
theorem i_X6 {l : Launch} {G : Gx} {mem : Mem} (hK : gK G = 1) (hO : gO G 0 = some (.inr (6, [.null, .null, .null, .null, .null, .null, .null, .null, .null, .null]))) (hCl : Cl G) : Ctg l M_X6_init G 326 3735 [.ref (gA G 0)] mem (fun o G' m' => o = none ∧ Gr G G' 0 327 mem m' ∧ FoAt m' 1 12 (fun _ => 1) (fun _ _ => 0) ∧ ∀ j, (j = 76 ∨ j = 79 ∨ (291 ≤ j ∧ j < 295) ∨ j = 326) → m' j = fun _ => 0) := by
  refine Ctg.of (by decide) (Nat.le_of_ble_eq_true rfl) rfl ?_
  refine x_aload_n (pc := 0) dX6_init_0 0 rfl rfl ?_
  refine x_objI (pc := 1) dX6_init_1 tb_50 tb_51 tb_52 (Nat.le_of_ble_eq_true rfl) (Nat.le_of_ble_eq_true rfl) (by decide) ?_
  have W0 : Wb G G 1 0 := ⟨⟨rfl, rfl⟩, hK, rfl, hO, fun i h1 h2 => by omega, hCl⟩
  refine x_aload_n (pc := 4) dX6_init_4 0 rfl rfl ?_
  refine x_new (pc := 5) (ci := 1) (fs := [.int 0, .null, .null]) W0.2.2.2.2.2 dX6_init_5 rfl inX1 tyX1 tyX1_ok tb_53 tb_54 tb_32 (fun j hj => by rcases (by omega : j = 0 ∨ j = 1 ∨ j = 2) with rfl | rfl | rfl <;> rfl) (Nat.le_of_ble_eq_true rfl) (Nat.le_of_ble_eq_true rfl) (fun q0 => ?_)
  refine x_dup (pc := 8) dX6_init_8 rfl ?_
  refine x_eq (st2 := [.ref (gA (gPut G q0 (.inr (1, [.int 0, .null, .null]))) 1), .ref q0, .ref (gA G 0)]) rfl rfl (by rw [W0.a1]) ?_
  refine x_callI (pc := 9) 1 (i_Forest (b := 1) rfl (W0.k1 _ _) (W0.o1 _ _) (W0.2.2.2.2.2).put) ok_X1_init dX6_init_9 tb_55 ⟨⟨rfl, rfl⟩, ⟨Nat.le_of_ble_eq_true rfl, Nat.le_of_ble_eq_true rfl⟩, Nat.le_of_ble_eq_true rfl, Nat.le_of_ble_eq_true rfl⟩ (As := []) rfl rfl (Nat.le_of_ble_eq_true rfl) (fun v0 h0 m0 hv0 _ _ => ?_)
  obtain ⟨rfl, r0, f0⟩ := hv0
  have W1 := W0.next (by decide) (by decide) r0 rfl
  refine x_eq (st2 := [.ref q0, .ref (gA h0 0)]) rfl rfl (by rw [W0.ae (by decide) r0]; rfl) ?_
  refine x_putR (pc := 12) 0 0 (ty := tyX6 0) rfl dX6_init_12 (by rw [r0.2.1]; decide) (W0.oe (by decide) (by decide) r0) rfl inX6 tyX6 tyX6_ok nmX6 (by decide) tb_192 rfl rfl rfl (tyX6_ok 0 (by decide)) rfl rfl (Nat.le_of_ble_eq_true rfl) ?_
  generalize gSet h0 0 (.inr (6, (WF 0 (gA h0)).set 0 (.ref q0))) = g1 at W1 ⊢
  refine x_aload_n (pc := 15) dX6_init_15 0 rfl rfl ?_
  refine x_new (pc := 16) (ci := 5) (fs := [.null, .int 0, .null]) W1.2.2.2.2.2 dX6_init_16 rfl inX5 tyX5 tyX5_ok tb_85 tb_86 tb_35 (fun j hj => by rcases (by omega : j = 0 ∨ j = 1 ∨ j = 2) with rfl | rfl | rfl <;> rfl) (Nat.le_of_ble_eq_true rfl) (Nat.le_of_ble_eq_true rfl) (fun q1 => ?_)
  refine x_dup (pc := 19) dX6_init_19 rfl ?_
  refine x_aload_n (pc := 20) dX6_init_20 0 rfl rfl ?_
  refine x_eq (st2 := [.ref (gA (gPut g1 q1 (.inr (5, [.null, .int 0, .null]))) 0), .ref q1, .ref q1, .ref (gA G 0)]) rfl rfl (by rw [W1.al _ _ (by decide), W1.2.2.1]) ?_
  refine x_get (pc := 21) 0 0 (v := .ref (gA g1 1)) dX6_init_21 (by rw [W1.k1]; decide) (cR_some (W1.o0 _ _ (by decide))) rfl inX6 (by decide) tb_192 rfl rfl ?_
  refine x_eq (st2 := [.ref (gA (gPut g1 q1 (.inr (5, [.null, .int 0, .null]))) 1), .ref (gA (gPut g1 q1 (.inr (5, [.null, .int 0, .null]))) 16), .ref q1, .ref (gA G 0)]) rfl rfl (by rw [W1.al _ _ (by decide), W1.a1]) ?_
  refine x_callI (pc := 24) 16 (i_Sv16 (W1.k1 _ _) (W1.o1 _ _) (W1.2.2.2.2.2).put) ok_X5_init dX6_init_24 tb_87 ⟨⟨rfl, rfl⟩, ⟨Nat.le_of_ble_eq_true rfl, Nat.le_of_ble_eq_true rfl⟩, Nat.le_of_ble_eq_true rfl, Nat.le_of_ble_eq_true rfl⟩ (As := [.ref (gA (gPut g1 q1 (.inr (5, [.null, .int 0, .null]))) 1)]) rfl rfl (Nat.le_of_ble_eq_true rfl) (fun v1 h1 m1 hv1 _ _ => ?_)
  obtain ⟨rfl, r1, f1⟩ := hv1
  have W2 := W1.next (by decide) (by decide) r1 rfl
  refine x_eq (st2 := [.ref q1, .ref (gA h1 0)]) rfl rfl (by rw [W1.ae (by decide) r1]; rfl) ?_
  refine x_putR (pc := 27) 0 1 (ty := tyX6 1) rfl dX6_init_27 (by rw [r1.2.1]; decide) (W1.oe (by decide) (by decide) r1) rfl inX6 tyX6 tyX6_ok nmX6 (by decide) tb_193 rfl rfl rfl (tyX6_ok 1 (by decide)) rfl rfl (Nat.le_of_ble_eq_true rfl) ?_
  generalize gSet h1 0 (.inr (6, (WF 1 (gA h1)).set 1 (.ref q1))) = g2 at W2 ⊢
  refine x_aload_n (pc := 30) dX6_init_30 0 rfl rfl ?_
  refine x_new (pc := 31) (ci := 1) (fs := [.int 0, .null, .null]) W2.2.2.2.2.2 dX6_init_31 rfl inX1 tyX1 tyX1_ok tb_53 tb_54 tb_32 (fun j hj => by rcases (by omega : j = 0 ∨ j = 1 ∨ j = 2) with rfl | rfl | rfl <;> rfl) (Nat.le_of_ble_eq_true rfl) (Nat.le_of_ble_eq_true rfl) (fun q2 => ?_)
  refine x_dup (pc := 34) dX6_init_34 rfl ?_
  refine x_eq (st2 := [.ref (gA (gPut g2 q2 (.inr (1, [.int 0, .null, .null]))) 30), .ref q2, .ref (gA G 0)]) rfl rfl (by rw [W2.a1]) ?_
  refine x_callI (pc := 35) 30 (i_Forest (b := 30) rfl (W2.k1 _ _) (W2.o1 _ _) (W2.2.2.2.2.2).put) ok_X1_init dX6_init_35 tb_55 ⟨⟨rfl, rfl⟩, ⟨Nat.le_of_ble_eq_true rfl, Nat.le_of_ble_eq_true rfl⟩, Nat.le_of_ble_eq_true rfl, Nat.le_of_ble_eq_true rfl⟩ (As := []) rfl rfl (Nat.le_of_ble_eq_true rfl) (fun v2 h2 m2 hv2 _ _ => ?_)
  obtain ⟨rfl, r2, f2⟩ := hv2
  have W3 := W2.next (by decide) (by decide) r2 rfl
  refine x_eq (st2 := [.ref q2, .ref (gA h2 0)]) rfl rfl (by rw [W2.ae (by decide) r2]; rfl) ?_
  refine x_putR (pc := 38) 0 2 (ty := tyX6 2) rfl dX6_init_38 (by rw [r2.2.1]; decide) (W2.oe (by decide) (by decide) r2) rfl inX6 tyX6 tyX6_ok nmX6 (by decide) tb_194 rfl rfl rfl (tyX6_ok 2 (by decide)) rfl rfl (Nat.le_of_ble_eq_true rfl) ?_
  generalize gSet h2 0 (.inr (6, (WF 2 (gA h2)).set 2 (.ref q2))) = g3 at W3 ⊢
  refine x_aload_n (pc := 41) dX6_init_41 0 rfl rfl ?_
  refine x_new (pc := 42) (ci := 5) (fs := [.null, .int 0, .null]) W3.2.2.2.2.2 dX6_init_42 rfl inX5 tyX5 tyX5_ok tb_85 tb_86 tb_35 (fun j hj => by rcases (by omega : j = 0 ∨ j = 1 ∨ j = 2) with rfl | rfl | rfl <;> rfl) (Nat.le_of_ble_eq_true rfl) (Nat.le_of_ble_eq_true rfl) (fun q3 => ?_)
  refine x_dup (pc := 45) dX6_init_45 rfl ?_
  refine x_aload_n (pc := 46) dX6_init_46 0 rfl rfl ?_
  refine x_eq (st2 := [.ref (gA (gPut g3 q3 (.inr (5, [.null, .int 0, .null]))) 0), .ref q3, .ref q3, .ref (gA G 0)]) rfl rfl (by rw [W3.al _ _ (by decide), W3.2.2.1]) ?_
  refine x_get (pc := 47) 0 2 (v := .ref (gA g3 30)) dX6_init_47 (by rw [W3.k1]; decide) (cR_some (W3.o0 _ _ (by decide))) rfl inX6 (by decide) tb_194 rfl rfl ?_
  refine x_eq (st2 := [.ref (gA (gPut g3 q3 (.inr (5, [.null, .int 0, .null]))) 30), .ref (gA (gPut g3 q3 (.inr (5, [.null, .int 0, .null]))) 45), .ref q3, .ref (gA G 0)]) rfl rfl (by rw [W3.al _ _ (by decide), W3.a1]) ?_
  refine x_callI (pc := 50) 45 (i_Sv45 (W3.k1 _ _) (W3.o1 _ _) (W3.2.2.2.2.2).put) ok_X5_init dX6_init_50 tb_87 ⟨⟨rfl, rfl⟩, ⟨Nat.le_of_ble_eq_true rfl, Nat.le_of_ble_eq_true rfl⟩, Nat.le_of_ble_eq_true rfl, Nat.le_of_ble_eq_true rfl⟩ (As := [.ref (gA (gPut g3 q3 (.inr (5, [.null, .int 0, .null]))) 30)]) rfl rfl (Nat.le_of_ble_eq_true rfl) (fun v3 h3 m3 hv3 _ _ => ?_)
  obtain ⟨rfl, r3, f3⟩ := hv3
  have W4 := W3.next (by decide) (by decide) r3 rfl
  refine x_eq (st2 := [.ref q3, .ref (gA h3 0)]) rfl rfl (by rw [W3.ae (by decide) r3]; rfl) ?_
  refine x_putR (pc := 53) 0 3 (ty := tyX6 3) rfl dX6_init_53 (by rw [r3.2.1]; decide) (W3.oe (by decide) (by decide) r3) rfl inX6 tyX6 tyX6_ok nmX6 (by decide) tb_195 rfl rfl rfl (tyX6_ok 3 (by decide)) rfl rfl (Nat.le_of_ble_eq_true rfl) ?_
  generalize gSet h3 0 (.inr (6, (WF 3 (gA h3)).set 3 (.ref q3))) = g4 at W4 ⊢
  refine x_aload_n (pc := 56) dX6_init_56 0 rfl rfl ?_
  refine x_new (pc := 57) (ci := 0) (fs := [.int 0, .int 0, .int 0, .null, .null, .null, .null]) W4.2.2.2.2.2 dX6_init_57 rfl inX0 tyX0 tyX0_ok tb_102 tb_103 tb_36 (fun j hj => by rcases (by omega : j = 0 ∨ j = 1 ∨ j = 2 ∨ j = 3 ∨ j = 4 ∨ j = 5 ∨ j = 6) with rfl | rfl | rfl | rfl | rfl | rfl | rfl <;> rfl) (Nat.le_of_ble_eq_true rfl) (Nat.le_of_ble_eq_true rfl) (fun q4 => ?_)
  refine x_dup (pc := 60) dX6_init_60 rfl ?_
  refine x_eq (st2 := [.ref (gA (gPut g4 q4 (.inr (0, [.int 0, .int 0, .int 0, .null, .null, .null, .null]))) 59), .ref q4, .ref (gA G 0)]) rfl rfl (by rw [W4.a1]) ?_
  refine x_callI (pc := 61) 59 (i_Ctr (W4.k1 _ _) (W4.o1 _ _) (W4.2.2.2.2.2).put) ok_X0_init dX6_init_61 tb_104 ⟨⟨rfl, rfl⟩, ⟨Nat.le_of_ble_eq_true rfl, Nat.le_of_ble_eq_true rfl⟩, Nat.le_of_ble_eq_true rfl, Nat.le_of_ble_eq_true rfl⟩ (As := []) rfl rfl (Nat.le_of_ble_eq_true rfl) (fun v4 h4 m4 hv4 _ _ => ?_)
  obtain ⟨rfl, r4, f4⟩ := hv4
  have W5 := W4.next (by decide) (by decide) r4 rfl
  refine x_eq (st2 := [.ref q4, .ref (gA h4 0)]) rfl rfl (by rw [W4.ae (by decide) r4]; rfl) ?_
  refine x_putR (pc := 64) 0 4 (ty := tyX6 4) rfl dX6_init_64 (by rw [r4.2.1]; decide) (W4.oe (by decide) (by decide) r4) rfl inX6 tyX6 tyX6_ok nmX6 (by decide) tb_196 rfl rfl rfl (tyX6_ok 4 (by decide)) rfl rfl (Nat.le_of_ble_eq_true rfl) ?_
  generalize gSet h4 0 (.inr (6, (WF 4 (gA h4)).set 4 (.ref q4))) = g5 at W5 ⊢
  refine x_aload_n (pc := 67) dX6_init_67 0 rfl rfl ?_
  refine x_new (pc := 68) (ci := 4) (fs := [.int 0, .null, .int 0, .null]) W5.2.2.2.2.2 dX6_init_68 rfl inX4 tyX4 tyX4_ok tb_132 tb_133 tb_37 (fun j hj => by rcases (by omega : j = 0 ∨ j = 1 ∨ j = 2 ∨ j = 3) with rfl | rfl | rfl | rfl <;> rfl) (Nat.le_of_ble_eq_true rfl) (Nat.le_of_ble_eq_true rfl) (fun q5 => ?_)
  refine x_dup (pc := 71) dX6_init_71 rfl ?_
  refine x_eq (st2 := [.ref (gA (gPut g5 q5 (.inr (4, [.int 0, .null, .int 0, .null]))) 76), .ref q5, .ref (gA G 0)]) rfl rfl (by rw [W5.a1]) ?_
  refine x_callI (pc := 72) 76 (i_Text (W5.k1 _ _) (W5.o1 _ _) (W5.2.2.2.2.2).put) ok_X4_init dX6_init_72 tb_134 ⟨⟨rfl, rfl⟩, ⟨Nat.le_of_ble_eq_true rfl, Nat.le_of_ble_eq_true rfl⟩, Nat.le_of_ble_eq_true rfl, Nat.le_of_ble_eq_true rfl⟩ (As := []) rfl rfl (Nat.le_of_ble_eq_true rfl) (fun v5 h5 m5 hv5 _ _ => ?_)
  obtain ⟨rfl, r5, f5⟩ := hv5
  have W6 := W5.next (by decide) (by decide) r5 rfl
  refine x_eq (st2 := [.ref q5, .ref (gA h5 0)]) rfl rfl (by rw [W5.ae (by decide) r5]; rfl) ?_
  refine x_putR (pc := 75) 0 5 (ty := tyX6 5) rfl dX6_init_75 (by rw [r5.2.1]; decide) (W5.oe (by decide) (by decide) r5) rfl inX6 tyX6 tyX6_ok nmX6 (by decide) tb_197 rfl rfl rfl (tyX6_ok 5 (by decide)) rfl rfl (Nat.le_of_ble_eq_true rfl) ?_
  generalize gSet h5 0 (.inr (6, (WF 5 (gA h5)).set 5 (.ref q5))) = g6 at W6 ⊢
  refine x_aload_n (pc := 78) dX6_init_78 0 rfl rfl ?_
  refine x_new (pc := 79) (ci := 2) (fs := [.null, .int 0, .int 0]) W6.2.2.2.2.2 dX6_init_79 rfl inX2 tyX2 tyX2_ok tb_151 tb_152 tb_38 (fun j hj => by rcases (by omega : j = 0 ∨ j = 1 ∨ j = 2) with rfl | rfl | rfl <;> rfl) (Nat.le_of_ble_eq_true rfl) (Nat.le_of_ble_eq_true rfl) (fun q6 => ?_)
  refine x_dup (pc := 82) dX6_init_82 rfl ?_
  refine x_eq (st2 := [.ref (gA (gPut g6 q6 (.inr (2, [.null, .int 0, .int 0]))) 79), .ref q6, .ref (gA G 0)]) rfl rfl (by rw [W6.a1]) ?_
  refine x_callI (pc := 83) 79 (i_Hist (W6.k1 _ _) (W6.o1 _ _) (W6.2.2.2.2.2).put) ok_X2_init dX6_init_83 tb_153 ⟨⟨rfl, rfl⟩, ⟨Nat.le_of_ble_eq_true rfl, Nat.le_of_ble_eq_true rfl⟩, Nat.le_of_ble_eq_true rfl, Nat.le_of_ble_eq_true rfl⟩ (As := []) rfl rfl (Nat.le_of_ble_eq_true rfl) (fun v6 h6 m6 hv6 _ _ => ?_)
  obtain ⟨rfl, r6, f6⟩ := hv6
  have W7 := W6.next (by decide) (by decide) r6 rfl
  refine x_eq (st2 := [.ref q6, .ref (gA h6 0)]) rfl rfl (by rw [W6.ae (by decide) r6]; rfl) ?_
  refine x_putR (pc := 86) 0 6 (ty := tyX6 6) rfl dX6_init_86 (by rw [r6.2.1]; decide) (W6.oe (by decide) (by decide) r6) rfl inX6 tyX6 tyX6_ok nmX6 (by decide) tb_198 rfl rfl rfl (tyX6_ok 6 (by decide)) rfl rfl (Nat.le_of_ble_eq_true rfl) ?_
  generalize gSet h6 0 (.inr (6, (WF 6 (gA h6)).set 6 (.ref q6))) = g7 at W7 ⊢
  refine x_aload_n (pc := 89) dX6_init_89 0 rfl rfl ?_
  refine x_new (pc := 90) (ci := 3) (fs := [.null, .null, .null, .int 0, .int 0]) W7.2.2.2.2.2 dX6_init_90 rfl inX3 tyX3 tyX3_ok tb_170 tb_171 tb_39 (fun j hj => by rcases (by omega : j = 0 ∨ j = 1 ∨ j = 2 ∨ j = 3 ∨ j = 4) with rfl | rfl | rfl | rfl | rfl <;> rfl) (Nat.le_of_ble_eq_true rfl) (Nat.le_of_ble_eq_true rfl) (fun q7 => ?_)
  refine x_dup (pc := 93) dX6_init_93 rfl ?_
  refine x_eq (st2 := [.ref (gA (gPut g7 q7 (.inr (3, [.null, .null, .null, .int 0, .int 0]))) 291), .ref q7, .ref (gA G 0)]) rfl rfl (by rw [W7.a1]) ?_
  refine x_callI (pc := 94) 291 (i_Obs (W7.k1 _ _) (W7.o1 _ _) (W7.2.2.2.2.2).put) ok_X3_init dX6_init_94 tb_172 ⟨⟨rfl, rfl⟩, ⟨Nat.le_of_ble_eq_true rfl, Nat.le_of_ble_eq_true rfl⟩, Nat.le_of_ble_eq_true rfl, Nat.le_of_ble_eq_true rfl⟩ (As := []) rfl rfl (Nat.le_of_ble_eq_true rfl) (fun v7 h7 m7 hv7 _ _ => ?_)
  obtain ⟨rfl, r7, f7⟩ := hv7
  have W8 := W7.next (by decide) (by decide) r7 rfl
  refine x_eq (st2 := [.ref q7, .ref (gA h7 0)]) rfl rfl (by rw [W7.ae (by decide) r7]; rfl) ?_
  refine x_putR (pc := 97) 0 7 (ty := tyX6 7) rfl dX6_init_97 (by rw [r7.2.1]; decide) (W7.oe (by decide) (by decide) r7) rfl inX6 tyX6 tyX6_ok nmX6 (by decide) tb_199 rfl rfl rfl (tyX6_ok 7 (by decide)) rfl rfl (Nat.le_of_ble_eq_true rfl) ?_
  generalize gSet h7 0 (.inr (6, (WF 7 (gA h7)).set 7 (.ref q7))) = g8 at W8 ⊢
  refine x_aload_n (pc := 100) dX6_init_100 0 rfl rfl ?_
  refine x_iconst (pc := 101) (v := 2) dX6_init_101 (by decide) ?_
  refine x_newF (pc := 102) (N := 2) W8.2.2.2.2.2 dX6_init_102 tb_53 (by decide) rfl (Nat.le_of_ble_eq_true rfl) (Nat.le_of_ble_eq_true rfl) (Nat.le_of_ble_eq_true rfl) (fun q8 => ?_)
  refine x_eq (st2 := [.ref q8, .ref (gA (gPut g8 q8 (rF (gC g8) 2 (fun _ => none))) 0)]) rfl rfl (by rw [W8.al _ _ (by decide), W8.2.2.1]) ?_
  refine x_putR (pc := 105) 0 8 (ty := tyX6 8) rfl dX6_init_105 (by rw [W8.k1]; decide) (W8.o0 _ _ (by decide)) rfl inX6 tyX6 tyX6_ok nmX6 (by decide) tb_200 rfl rfl rfl (tyX6_ok 8 (by decide)) rfl rfl (Nat.le_of_ble_eq_true rfl) ?_
  have e9 : (WF 8 (gA g8)).set 8 (.ref q8) = WF 9 (gA (gPut g8 q8 (rF (gC g8) 2 (fun _ => none)))) := by
    have h8 := WF_cong (n := 8) (k := 295) (by decide) (fun i hi => (W8.al q8 (rF (gC g8) 2 (fun _ => none)) hi).symm)
    have a8 := W8.a1 q8 (rF (gC g8) 2 (fun _ => none))
    generalize gPut g8 q8 (rF (gC g8) 2 (fun _ => none)) = gp at h8 a8 ⊢
    rw [h8, ← a8]
    rfl
  rw [e9]
  have s1 : gK (gSet (gPut g8 q8 (rF (gC g8) 2 (fun _ => none))) 0 (.inr (6, WF 9 (gA (gPut g8 q8 (rF (gC g8) 2 (fun _ => none))))))) = 296 := W8.k1 q8 (rF (gC g8) 2 (fun _ => none))
  have s2 : gO (gSet (gPut g8 q8 (rF (gC g8) 2 (fun _ => none))) 0 (.inr (6, WF 9 (gA (gPut g8 q8 (rF (gC g8) 2 (fun _ => none))))))) 0 = some (.inr (6, WF 9 (gA (gSet (gPut g8 q8 (rF (gC g8) 2 (fun _ => none))) 0 (.inr (6, WF 9 (gA (gPut g8 q8 (rF (gC g8) 2 (fun _ => none)))))))))) := rfl
  have s3 : gO (gSet (gPut g8 q8 (rF (gC g8) 2 (fun _ => none))) 0 (.inr (6, WF 9 (gA (gPut g8 q8 (rF (gC g8) 2 (fun _ => none))))))) 295 = some (rF (gC G) 2 (fun _ => none)) := by rw [← W8.1.2]; exact W8.o1 q8 (rF (gC g8) 2 (fun _ => none))
  have s4 : ∀ i, 1 ≤ i → i < 295 → gO (gSet (gPut g8 q8 (rF (gC g8) 2 (fun _ => none))) 0 (.inr (6, WF 9 (gA (gPut g8 q8 (rF (gC g8) 2 (fun _ => none))))))) i = none := fun i h1 h2 => (if_neg (by omega)).trans ((W8.ol q8 (rF (gC g8) 2 (fun _ => none)) h2).trans (W8.2.2.2.2.1 i h1 h2))
  have s5 : gA (gSet (gPut g8 q8 (rF (gC g8) 2 (fun _ => none))) 0 (.inr (6, WF 9 (gA (gPut g8 q8 (rF (gC g8) 2 (fun _ => none))))))) 0 = gA G 0 := (W8.al q8 (rF (gC g8) 2 (fun _ => none)) (by decide)).trans W8.2.2.1
  have s6 : gD (gSet (gPut g8 q8 (rF (gC g8) 2 (fun _ => none))) 0 (.inr (6, WF 9 (gA (gPut g8 q8 (rF (gC g8) 2 (fun _ => none))))))) = gD G ∧ gC (gSet (gPut g8 q8 (rF (gC g8) 2 (fun _ => none))) 0 (.inr (6, WF 9 (gA (gPut g8 q8 (rF (gC g8) 2 (fun _ => none))))))) = gC G := W8.1
  have s7 : Cl (gSet (gPut g8 q8 (rF (gC g8) 2 (fun _ => none))) 0 (.inr (6, WF 9 (gA (gPut g8 q8 (rF (gC g8) 2 (fun _ => none))))))) := W8.2.2.2.2.2.put.set
  generalize gSet (gPut g8 q8 (rF (gC g8) 2 (fun _ => none))) 0 (.inr (6, WF 9 (gA (gPut g8 q8 (rF (gC g8) 2 (fun _ => none)))))) = g9 at s1 s2 s3 s4 s5 s6 s7 ⊢
  refine x_iconst (pc := 108) (v := 0) dX6_init_108 (by decide) ?_
  refine x_istore_n (pc := 109) (lv' := [(1, .int (nI 0)), (0, .ref (gA G 0))]) dX6_init_109 rfl (by decide) rfl ?_
  refine x_widen (c2 := 295 + 15 * 0) (s2 := 3391 + 171 * 0) (Nat.le_of_ble_eq_true rfl) (Nat.le_of_ble_eq_true rfl) ?_
  refine fill_S (G := g9) (mem := m7) (fs := WF 9 (gA g9)) (a0 := gA G 0) s5 rfl ?_ 2 0 rfl g9 m7 ⟨⟨rfl, rfl⟩, s1, fun _ _ => rfl, fun _ _ _ => rfl, s2, ?_, fun i h1 h2 => by omega, s7⟩ (fun _ _ => rfl)
  · intro Gk mk hR hm
    obtain ⟨u1, u2, u3, u4, u5, u6, u7, u8⟩ := hR
    refine x_aload_n (pc := 134) dX6_init_134 1 rfl rfl ?_
    refine x_iconst (pc := 135) (v := 2) dX6_init_135 (by decide) ?_
    refine x_newaZ (pc := 136) (N := 2) u8 dX6_init_136 tb_131 (by decide) rfl (Nat.le_of_ble_eq_true rfl) (Nat.le_of_ble_eq_true rfl) (Nat.le_of_ble_eq_true rfl) (fun q9 => ?_)
    have u2 : gK Gk = 326 := u2
    have pK : gK (gPut Gk q9 (rZ (gC Gk) 2 (fun _ => 0))) = 327 := congrArg (· + 1) u2
    have pA : ∀ i, i < 326 → gA (gPut Gk q9 (rZ (gC Gk) 2 (fun _ => 0))) i = gA Gk i := fun i hi => if_neg (by rw [u2]; omega)
    have pa : gA (gPut Gk q9 (rZ (gC Gk) 2 (fun _ => 0))) 326 = q9 := if_pos u2.symm
    have pO : ∀ i, i < 326 → gO (gPut Gk q9 (rZ (gC Gk) 2 (fun _ => 0))) i = gO Gk i := fun i hi => if_neg (by rw [u2]; omega)
    have po : gO (gPut Gk q9 (rZ (gC Gk) 2 (fun _ => 0))) 326 = some (rZ (gC G) 2 (fun _ => 0)) := by rw [← s6.2, ← u1.2]; exact if_pos u2.symm
    have pD : gD (gPut Gk q9 (rZ (gC Gk) 2 (fun _ => 0))) = gD G ∧ gC (gPut Gk q9 (rZ (gC Gk) 2 (fun _ => 0))) = gC G := ⟨u1.1.trans s6.1, u1.2.trans s6.2⟩
    generalize gPut Gk q9 (rZ (gC Gk) 2 (fun _ => 0)) = gp at pK pA pa pO po pD ⊢
    refine x_eq (st2 := [.ref q9, .ref (gA gp 0)]) rfl rfl (by rw [pA 0 (by decide), u3 0 (by decide), s5]) ?_
    refine x_putR (pc := 138) 0 9 (ty := tyX6 9) rfl dX6_init_138 (by rw [pK]; decide) ((pO 0 (by decide)).trans u5) rfl inX6 tyX6 tyX6_ok nmX6 (by decide) tb_201 rfl rfl rfl (tyX6_ok 9 (by decide)) rfl rfl (Nat.le_of_ble_eq_true rfl) ?_
    have e10 : (WF 9 (gA g9)).set 9 (.ref q9) = WF 10 (gA gp) := by
      have h9 := WF_cong (n := 9) (k := 296) (by decide) (fun i hi => (u3 i hi).symm.trans (pA i (by omega)).symm)
      rw [h9, ← pa]
      rfl
    rw [e10]
    refine x_view (G' := (gD G, gC G, 327, gA gp, fun _ => none)) (mem' := fun j => if j = 0 ∨ j = 295 ∨ j = 326 then (fun _ => 0) else mk j) pD.1.symm pD.2.symm pK.symm (fun j hj => ⟨rfl, ?_⟩) ?_
    · have hj : j < 327 := by have h0 : gK (gSet gp 0 (.inr (6, WF 10 (gA gp)))) = 327 := pK; omega
      rw [cR_none rfl]
      try dsimp only
      by_cases c0 : j = 0
      · subst c0
        rw [if_pos (Or.inl rfl), cR_some (e := .inr (6, WF 10 (gA gp))) rfl]
        rfl
      · have b0 : gO (gSet gp 0 (.inr (6, WF 10 (gA gp)))) j = gO gp j := if_neg c0
        by_cases c1 : j = 295
        · subst c1
          rw [if_pos (Or.inr (Or.inl rfl)), cR_some (b0.trans ((pO 295 (by decide)).trans u6)), s6.2]
          refine Eq.trans (b := rF (gC G) 2 (fun k => if k < 2 then some (gA gp (296 + 15 * k)) else none)) rfl ?_
          congr 1
          funext k
          by_cases ck : k < 2
          · rw [if_pos ck, if_pos ck, pA _ (by omega)]
          · rw [if_neg ck, if_neg ck]
        · by_cases c2 : j = 326
          · subst c2
            rw [if_pos (Or.inr (Or.inr rfl)), cR_some (b0.trans po)]
            rfl
          · have hn : gO gp j = none := by
              rw [pO j (by omega)]
              by_cases c3 : j < 296
              · rw [u4 j c3 c1]; exact s4 j (by omega) (by omega)
              · exact u7 j (by omega) (by omega)
            rw [if_neg (by omega), cR_none (b0.trans hn)]
            have eC : gC (gSet gp 0 (.inr (6, WF 10 (gA gp)))) = gC G := pD.2
            rw [eC]
            rfl
    · have k7 : ∀ i, i < 295 → i ≠ 0 → (fun j => if j = 0 ∨ j = 295 ∨ j = 326 then (fun _ => 0) else mk j : Mem) i = m7 i := fun i hi h0 => (if_neg (by omega)).trans (hm i (by omega))
      have k6 : ∀ i, i < 291 → i ≠ 0 → (fun j => if j = 0 ∨ j = 295 ∨ j = 326 then (fun _ => 0) else mk j : Mem) i = m6 i := fun i hi h0 => (k7 i (by omega) h0).trans (r7.2.2.2.2.2.2 i hi)
      have k5 : ∀ i, i < 79 → i ≠ 0 → (fun j => if j = 0 ∨ j = 295 ∨ j = 326 then (fun _ => 0) else mk j : Mem) i = m5 i := fun i hi h0 => (k6 i (by omega) h0).trans (r6.2.2.2.2.2.2 i hi)
      have k4 : ∀ i, i < 76 → i ≠ 0 → (fun j => if j = 0 ∨ j = 295 ∨ j = 326 then (fun _ => 0) else mk j : Mem) i = m4 i := fun i hi h0 => (k5 i (by omega) h0).trans (r5.2.2.2.2.2.2 i hi)
      have k3 : ∀ i, i < 59 → i ≠ 0 → (fun j => if j = 0 ∨ j = 295 ∨ j = 326 then (fun _ => 0) else mk j : Mem) i = m3 i := fun i hi h0 => (k4 i (by omega) h0).trans (r4.2.2.2.2.2.2 i hi)
      have k2 : ∀ i, i < 45 → i ≠ 0 → (fun j => if j = 0 ∨ j = 295 ∨ j = 326 then (fun _ => 0) else mk j : Mem) i = m2 i := fun i hi h0 => (k3 i (by omega) h0).trans (r3.2.2.2.2.2.2 i hi)
      have k1 : ∀ i, i < 30 → i ≠ 0 → (fun j => if j = 0 ∨ j = 295 ∨ j = 326 then (fun _ => 0) else mk j : Mem) i = m1 i := fun i hi h0 => (k2 i (by omega) h0).trans (r2.2.2.2.2.2.2 i hi)
      have k0 : ∀ i, i < 16 → i ≠ 0 → (fun j => if j = 0 ∨ j = 295 ∨ j = 326 then (fun _ => 0) else mk j : Mem) i = m0 i := fun i hi h0 => (k1 i (by omega) h0).trans (r1.2.2.2.2.2.2 i hi)
      refine x_vret (pc := 141) dX6_init_141 rfl rfl rfl ⟨rfl, ⟨⟨rfl, rfl⟩, rfl, fun i hi => ?_, fun i hi => absurd hi (Nat.not_lt_zero _), fun i hi hi2 => rfl, fun j hj hn ad had r => cl_all (fun k hk => had k (Nat.lt_of_lt_of_le hk (top_W hj))), fun i hi => absurd hi (Nat.not_lt_zero _)⟩, ?_, ?_⟩
      · have : i = 0 := by omega
        subst this
        show gA gp 0 = _
        rw [pA 0 (by decide), u3 0 (by decide), s5]
      · refine ⟨?_, fun v hv => ?_, fun u v hu hv => ?_⟩
        · rw [k0 1 (by decide) (by decide)]; exact f0.1
        · rw [k0 (1 + 1) (by decide) (by decide)]; exact f0.2.1 v hv
        · rw [k0 (1 + 3 + u) (by omega) (by omega)]; exact f0.2.2 u v hu hv
      · intro j hj
        rcases hj with rfl | rfl | hj | rfl
        · rw [k5 76 (by decide) (by decide)]; exact f5 76 (by decide)
        · rw [k6 79 (by decide) (by decide)]; exact f6
        · rw [k7 j (by omega) (by omega)]; exact f7 j (by omega)
        · exact if_pos (Or.inr (Or.inr rfl))
  · rw [s3, s6.2]
    refine congrArg (fun f => some (rF (gC G) 2 f)) ?_
    funext j
    rw [if_neg (Nat.not_lt_zero j)]
