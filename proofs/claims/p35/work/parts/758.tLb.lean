set_option maxRecDepth 100000 in
set_option maxHeartbeats 4000000 in
theorem t_L_built_0 {l : Launch} {G : Gx} {P : Int32 → Mem → Prop} (hG : Mn G) (a1 : Int32) (mem : Mem)
    (h : ∃ Q1 : Int32 → Mem → Prop, CtI l M_L_vertices G [.ref (gA G 0)] mem Q1 ∧ ∀ (r3 : Int32) (m4 : Mem), Q1 r3 m4 → (¬ r3 = 0 ∧ (∃ Q6 : Int32 → Mem → Prop, CtI l M_X6_survivor G [.ref (gA G 0), .int (a1 - a1 / r3 * r3)] m4 Q6 ∧ ∀ (r8 : Int32) (m9 : Mem), Q6 r8 m9 → (∃ Q11 : Int32 → Mem → Prop, CtI l M_X6_treeOf G [.ref (gA G 0), .int (a1 - a1 / r3 * r3)] m9 Q11 ∧ ∀ (r13 : Int32) (m14 : Mem), Q11 r13 m14 → (((a1 - a1 / r3 * r3) < r13 → (XI l M_L_built G P m14 67 [(0, .ref (gA G 0)), (1, .int a1), (2, .int r3), (3, .int (a1 - a1 / r3 * r3)), (4, .int r8), (5, .int 0), (6, .int 0), (7, .long 0), (9, .int 0), (10, .int 0)] [])) ∧ (¬ (a1 - a1 / r3 * r3) < r13 → (∃ Q17 : Int32 → Mem → Prop, CtI l M_X6_distance G [.ref (gA G 0), .int (a1 - a1 / r3 * r3), .int (a1 - a1 / r3 * r3)] m14 Q17 ∧ ∀ (r19 : Int32) (m20 : Mem), Q17 r19 m20 → ((¬ r19 = 0 → (XI l M_L_built G P m20 67 [(0, .ref (gA G 0)), (1, .int a1), (2, .int r3), (3, .int (a1 - a1 / r3 * r3)), (4, .int r8), (5, .int 0), (6, .int 0), (7, .long 0), (9, .int 0), (10, .int 0)] [])) ∧ (r19 = 0 → (∃ Q23 : Int32 → Mem → Prop, CtI l M_X6_treeOf G [.ref (gA G 0), .int r8] m20 Q23 ∧ ∀ (r25 : Int32) (m26 : Mem), Q23 r25 m26 → (∃ Q28 : Int32 → Mem → Prop, CtI l M_X6_treeOf G [.ref (gA G 0), .int (a1 - a1 / r3 * r3)] m26 Q28 ∧ ∀ (r30 : Int32) (m31 : Mem), Q28 r30 m31 → ((¬ r25 = r30 → (XI l M_L_built G P m31 67 [(0, .ref (gA G 0)), (1, .int a1), (2, .int r3), (3, .int (a1 - a1 / r3 * r3)), (4, .int r8), (5, .int 0), (6, .int 0), (7, .long 0), (9, .int 0), (10, .int 0)] [])) ∧ (r25 = r30 → (XI l M_L_built G P m31 63 [(0, .ref (gA G 0)), (1, .int a1), (2, .int r3), (3, .int (a1 - a1 / r3 * r3)), (4, .int r8), (5, .int 0), (6, .int 0), (7, .long 0), (9, .int 0), (10, .int 0)] [])))))))))))))) :
    XI l M_L_built G P mem 0 [(0, .ref (gA G 0)), (1, .int a1)] [] := by
  refine x_aload_n (pc := 0) dL_built_0 0 rfl rfl ?_
  obtain ⟨Q1, hc2, h⟩ := h
  refine x_callSI (pc := 1) hc2 ok_L_vertices dL_built_1 tb_231 ⟨⟨rfl, rfl⟩, ⟨by decide, by decide⟩, by decide, by decide⟩ rfl rfl (Nat.le_of_ble_eq_true rfl) (fun r3 m4 q5 => ?_)
  have h := h r3 m4 q5
  refine x_istore_n (pc := 4) dL_built_4 rfl (by decide) rfl ?_
  refine x_iload_n (pc := 5) dL_built_5 2 rfl rfl ?_
  refine x_iload_n (pc := 6) dL_built_6 0 rfl rfl ?_
  refine x_irem (pc := 7) dL_built_7 h.1 ?_
  have h := h.2
  refine x_istore_n (pc := 8) dL_built_8 rfl (by decide) rfl ?_
  refine x_aload_n (pc := 9) dL_built_9 2 rfl rfl ?_
  refine x_iload_n (pc := 10) dL_built_10 0 rfl rfl ?_
  obtain ⟨Q6, hc7, h⟩ := h
  refine x_callVI (pc := 11) 0 hc7 ok_X6_survivor dL_built_11 tb_515 ⟨⟨rfl, rfl⟩, ⟨by decide, by decide⟩, by decide, by decide⟩ (mK hG (by decide)) (mc_0 hG _) rfl (As := [.int (a1 - a1 / r3 * r3)]) rfl rfl (Nat.le_of_ble_eq_true rfl) (fun r8 m9 q10 => ?_)
  have h := h r8 m9 q10
  refine x_istore (pc := 14) dL_built_14 (by decide) rfl ?_
  refine x_iconst (pc := 16) (v := 0) dL_built_16 (by decide) ?_
  refine x_istore (pc := 17) dL_built_17 (by decide) rfl ?_
  refine x_iconst (pc := 19) (v := 0) dL_built_19 (by decide) ?_
  refine x_istore (pc := 20) dL_built_20 (by decide) rfl ?_
  refine x_lconst (pc := 22) (v := 0) dL_built_22 rfl ?_
  refine x_lstore (pc := 23) dL_built_23 (by decide) rfl ?_
  refine x_iconst (pc := 25) (v := 0) dL_built_25 (by decide) ?_
  refine x_istore (pc := 26) dL_built_26 (by decide) rfl ?_
  refine x_iconst (pc := 28) (v := 0) dL_built_28 (by decide) ?_
  refine x_istore (pc := 29) dL_built_29 (by decide) rfl ?_
  refine x_aload_n (pc := 31) dL_built_31 8 rfl rfl ?_
  refine x_iload_n (pc := 32) dL_built_32 6 rfl rfl ?_
  obtain ⟨Q11, hc12, h⟩ := h
  refine x_callVI (pc := 33) 0 hc12 ok_X6_treeOf dL_built_33 tb_277 ⟨⟨rfl, rfl⟩, ⟨by decide, by decide⟩, by decide, by decide⟩ (mK hG (by decide)) (mc_0 hG _) rfl (As := [.int (a1 - a1 / r3 * r3)]) rfl rfl (Nat.le_of_ble_eq_true rfl) (fun r13 m14 q15 => ?_)
  have h := h r13 m14 q15
  refine x_iload_n (pc := 36) dL_built_36 6 rfl rfl ?_
  refine x_icmp_gt (pc := 37) (tgt := 67) dL_built_37 (by decide) (fun c16 => ?_) (fun c16 => ?_)
  · have h := h.1 c16
    exact x_sub [8, 9, 7, 6, 5, 4, 3, 2, 1, 0] rfl h
  · have h := h.2 c16
    refine x_aload_n (pc := 40) dL_built_40 8 rfl rfl ?_
    refine x_iload_n (pc := 41) dL_built_41 6 rfl rfl ?_
    refine x_iload_n (pc := 42) dL_built_42 6 rfl rfl ?_
    obtain ⟨Q17, hc18, h⟩ := h
    refine x_callVI (pc := 43) 0 hc18 ok_X6_distance dL_built_43 tb_356 ⟨⟨rfl, rfl⟩, ⟨by decide, by decide⟩, by decide, by decide⟩ (mK hG (by decide)) (mc_0 hG _) rfl (As := [.int (a1 - a1 / r3 * r3), .int (a1 - a1 / r3 * r3)]) rfl rfl (Nat.le_of_ble_eq_true rfl) (fun r19 m20 q21 => ?_)
    have h := h r19 m20 q21
    refine x_if_ne (pc := 46) (tgt := 67) dL_built_46 (by decide) (fun c22 => ?_) (fun c22 => ?_)
    · have h := h.1 c22
      exact x_sub [8, 9, 7, 6, 5, 4, 3, 2, 1, 0] rfl h
    · have h := h.2 c22
      refine x_aload_n (pc := 49) dL_built_49 8 rfl rfl ?_
      refine x_iload (pc := 50) dL_built_50 5 rfl ?_
      obtain ⟨Q23, hc24, h⟩ := h
      refine x_callVI (pc := 52) 0 hc24 ok_X6_treeOf dL_built_52 tb_277 ⟨⟨rfl, rfl⟩, ⟨by decide, by decide⟩, by decide, by decide⟩ (mK hG (by decide)) (mc_0 hG _) rfl (As := [.int r8]) rfl rfl (Nat.le_of_ble_eq_true rfl) (fun r25 m26 q27 => ?_)
      have h := h r25 m26 q27
      refine x_aload_n (pc := 55) dL_built_55 8 rfl rfl ?_
      refine x_iload_n (pc := 56) dL_built_56 6 rfl rfl ?_
      obtain ⟨Q28, hc29, h⟩ := h
      refine x_callVI (pc := 57) 0 hc29 ok_X6_treeOf dL_built_57 tb_277 ⟨⟨rfl, rfl⟩, ⟨by decide, by decide⟩, by decide, by decide⟩ (mK hG (by decide)) (mc_0 hG _) rfl (As := [.int (a1 - a1 / r3 * r3)]) rfl rfl (Nat.le_of_ble_eq_true rfl) (fun r30 m31 q32 => ?_)
      have h := h r30 m31 q32
      refine x_icmp_ne (pc := 60) (tgt := 67) dL_built_60 (by decide) (fun c33 => ?_) (fun c33 => ?_)
      · have h := h.1 c33
        exact x_sub [8, 9, 7, 6, 5, 4, 3, 2, 1, 0] rfl h
      · have h := h.2 c33
        exact x_sub [8, 9, 7, 6, 5, 4, 3, 2, 1, 0] rfl h
set_option maxRecDepth 100000 in
set_option maxHeartbeats 4000000 in
theorem t_L_built_63 {l : Launch} {G : Gx} {P : Int32 → Mem → Prop} (hG : Mn G) (a1 : Int32) (a2 : Int32) (a3 : Int32) (a4 : Int32) (a5 : Int32) (a6 : Int32) (a7 : Int64) (a9 : Int32) (a10 : Int32) (mem : Mem)
    (h : XI l M_L_built G P mem 70 [(0, .ref (gA G 0)), (1, .int a1), (2, .int a2), (3, .int a3), (4, .int a4), (5, .int a5), (6, .int a6), (7, .long a7), (9, .int a9), (10, .int a10), (11, .int 1)] []) :
    XI l M_L_built G P mem 63 [(0, .ref (gA G 0)), (1, .int a1), (2, .int a2), (3, .int a3), (4, .int a4), (5, .int a5), (6, .int a6), (7, .long a7), (9, .int a9), (10, .int a10)] [] := by
  refine x_iconst (pc := 63) (v := 1) dL_built_63 (by decide) ?_
  refine x_goto (pc := 64) (tgt := 68) dL_built_64 (by decide) ?_
  refine x_istore (pc := 68) dL_built_68 (by decide) rfl ?_
  exact x_sub [1, 2, 3, 4, 5, 6, 7, 8, 9, 10, 0] rfl h
set_option maxRecDepth 100000 in
set_option maxHeartbeats 4000000 in
theorem t_L_built_67 {l : Launch} {G : Gx} {P : Int32 → Mem → Prop} (hG : Mn G) (a1 : Int32) (a2 : Int32) (a3 : Int32) (a4 : Int32) (a5 : Int32) (a6 : Int32) (a7 : Int64) (a9 : Int32) (a10 : Int32) (mem : Mem)
    (h : XI l M_L_built G P mem 70 [(0, .ref (gA G 0)), (1, .int a1), (2, .int a2), (3, .int a3), (4, .int a4), (5, .int a5), (6, .int a6), (7, .long a7), (9, .int a9), (10, .int a10), (11, .int 0)] []) :
    XI l M_L_built G P mem 67 [(0, .ref (gA G 0)), (1, .int a1), (2, .int a2), (3, .int a3), (4, .int a4), (5, .int a5), (6, .int a6), (7, .long a7), (9, .int a9), (10, .int a10)] [] := by
  refine x_iconst (pc := 67) (v := 0) dL_built_67 (by decide) ?_
  refine x_istore (pc := 68) dL_built_68 (by decide) rfl ?_
  exact x_sub [1, 2, 3, 4, 5, 6, 7, 8, 9, 10, 0] rfl h
set_option maxRecDepth 100000 in
set_option maxHeartbeats 4000000 in
theorem t_L_built_70 {l : Launch} {G : Gx} {P : Int32 → Mem → Prop} (hG : Mn G) (a1 : Int32) (a2 : Int32) (a3 : Int32) (a4 : Int32) (a5 : Int32) (a6 : Int32) (a7 : Int64) (a9 : Int32) (a10 : Int32) (a11 : Int32) (mem : Mem)
    (h : XI l M_L_built G P mem 73 [(0, .ref (gA G 0)), (1, .int a1), (2, .int a2), (3, .int a3), (4, .int a4), (5, .int a5), (6, .int a6), (7, .long a7), (9, .int a9), (10, .int a10), (11, .int a11), (12, .int 0)] []) :
    XI l M_L_built G P mem 70 [(0, .ref (gA G 0)), (1, .int a1), (2, .int a2), (3, .int a3), (4, .int a4), (5, .int a5), (6, .int a6), (7, .long a7), (9, .int a9), (10, .int a10), (11, .int a11)] [] := by
  refine x_iconst (pc := 70) (v := 0) dL_built_70 (by decide) ?_
  refine x_istore (pc := 71) dL_built_71 (by decide) rfl ?_
  exact x_sub [1, 2, 3, 4, 5, 6, 7, 8, 9, 10, 11, 0] rfl h
set_option maxRecDepth 100000 in
set_option maxHeartbeats 4000000 in
theorem t_L_built_73 {l : Launch} {G : Gx} {P : Int32 → Mem → Prop} (hG : Mn G) (a1 : Int32) (a2 : Int32) (a3 : Int32) (a4 : Int32) (a5 : Int32) (a6 : Int32) (a7 : Int64) (a9 : Int32) (a10 : Int32) (a11 : Int32) (a12 : Int32) (mem : Mem)
    (h : (a2 ≤ a12 → (XI l M_L_built G P mem 746 [(0, .ref (gA G 0)), (3, .int a3), (4, .int a4), (5, .int a5), (6, .int a6), (7, .long a7), (9, .int a9), (10, .int a10), (11, .int a11)] [])) ∧ (¬ a2 ≤ a12 → ((a11 = 0 → (XI l M_L_built G P mem 746 [(0, .ref (gA G 0)), (3, .int a3), (4, .int a4), (5, .int a5), (6, .int a6), (7, .long a7), (9, .int a9), (10, .int a10), (11, .int a11)] [])) ∧ (¬ a11 = 0 → (∃ Q3 : Int32 → Mem → Prop, CtI l M_X6_distance G [.ref (gA G 0), .int a3, .int a12] mem Q3 ∧ ∀ (r5 : Int32) (m6 : Mem), Q3 r5 m6 → (∃ Q8 : Int32 → Mem → Prop, CtI l M_X6_treeOf G [.ref (gA G 0), .int a3] m6 Q8 ∧ ∀ (r10 : Int32) (m11 : Mem), Q8 r10 m11 → (∃ Q13 : Int32 → Mem → Prop, CtI l M_X6_treeOf G [.ref (gA G 0), .int a12] m11 Q13 ∧ ∀ (r15 : Int32) (m16 : Mem), Q13 r15 m16 → ((¬ r10 = r15 → (XI l M_L_built G P m16 114 [(0, .ref (gA G 0)), (1, .int a1), (2, .int a2), (3, .int a3), (4, .int a4), (5, .int a5), (6, .int a6), (7, .long a7), (9, .int a9), (10, .int a10), (12, .int a12), (13, .int r5), (14, .int 0)] [])) ∧ (r10 = r15 → (XI l M_L_built G P m16 114 [(0, .ref (gA G 0)), (1, .int a1), (2, .int a2), (3, .int a3), (4, .int a4), (5, .int a5), (6, .int a6), (7, .long a7), (9, .int a9), (10, .int a10), (12, .int a12), (13, .int r5), (14, .int 1)] [])))))))))) :
    XI l M_L_built G P mem 73 [(0, .ref (gA G 0)), (1, .int a1), (2, .int a2), (3, .int a3), (4, .int a4), (5, .int a5), (6, .int a6), (7, .long a7), (9, .int a9), (10, .int a10), (11, .int a11), (12, .int a12)] [] := by
  refine x_iload (pc := 73) dL_built_73 11 rfl ?_
  refine x_iload_n (pc := 75) dL_built_75 2 rfl rfl ?_
  refine x_icmp_ge (pc := 76) (tgt := 746) dL_built_76 (by decide) (fun c1 => ?_) (fun c1 => ?_)
  · have h := h.1 c1
    exact x_sub [0, 3, 4, 5, 6, 7, 8, 9, 10] rfl h
  · have h := h.2 c1
    refine x_iload (pc := 79) dL_built_79 10 rfl ?_
    refine x_if_eq (pc := 81) (tgt := 746) dL_built_81 (by decide) (fun c2 => ?_) (fun c2 => ?_)
    · have h := h.1 c2
      exact x_sub [0, 3, 4, 5, 6, 7, 8, 9, 10] rfl h
    · have h := h.2 c2
      refine x_aload_n (pc := 84) dL_built_84 0 rfl rfl ?_
      refine x_iload_n (pc := 85) dL_built_85 3 rfl rfl ?_
      refine x_iload (pc := 86) dL_built_86 11 rfl ?_
      obtain ⟨Q3, hc4, h⟩ := h
      refine x_callVI (pc := 88) 0 hc4 ok_X6_distance dL_built_88 tb_356 ⟨⟨rfl, rfl⟩, ⟨by decide, by decide⟩, by decide, by decide⟩ (mK hG (by decide)) (mc_0 hG _) rfl (As := [.int a3, .int a12]) rfl rfl (Nat.le_of_ble_eq_true rfl) (fun r5 m6 q7 => ?_)
      have h := h r5 m6 q7
      refine x_istore (pc := 91) dL_built_91 (by decide) rfl ?_
      refine x_aload_n (pc := 93) dL_built_93 1 rfl rfl ?_
      refine x_iload_n (pc := 94) dL_built_94 4 rfl rfl ?_
      obtain ⟨Q8, hc9, h⟩ := h
      refine x_callVI (pc := 95) 0 hc9 ok_X6_treeOf dL_built_95 tb_277 ⟨⟨rfl, rfl⟩, ⟨by decide, by decide⟩, by decide, by decide⟩ (mK hG (by decide)) (mc_0 hG _) rfl (As := [.int a3]) rfl rfl (Nat.le_of_ble_eq_true rfl) (fun r10 m11 q12 => ?_)
      have h := h r10 m11 q12
      refine x_aload_n (pc := 98) dL_built_98 1 rfl rfl ?_
      refine x_iload (pc := 99) dL_built_99 12 rfl ?_
      obtain ⟨Q13, hc14, h⟩ := h
      refine x_callVI (pc := 101) 0 hc14 ok_X6_treeOf dL_built_101 tb_277 ⟨⟨rfl, rfl⟩, ⟨by decide, by decide⟩, by decide, by decide⟩ (mK hG (by decide)) (mc_0 hG _) rfl (As := [.int a12]) rfl rfl (Nat.le_of_ble_eq_true rfl) (fun r15 m16 q17 => ?_)
      have h := h r15 m16 q17
      refine x_icmp_ne (pc := 104) (tgt := 111) dL_built_104 (by decide) (fun c18 => ?_) (fun c18 => ?_)
      · have h := h.1 c18
        refine x_iconst (pc := 111) (v := 0) dL_built_111 (by decide) ?_
        refine x_istore (pc := 112) dL_built_112 (by decide) rfl ?_
        exact x_sub [2, 3, 4, 5, 6, 7, 8, 9, 10, 11, 13, 1, 0] rfl h
      · have h := h.2 c18
        refine x_iconst (pc := 107) (v := 1) dL_built_107 (by decide) ?_
        refine x_goto (pc := 108) (tgt := 112) dL_built_108 (by decide) ?_
        refine x_istore (pc := 112) dL_built_112 (by decide) rfl ?_
        exact x_sub [2, 3, 4, 5, 6, 7, 8, 9, 10, 11, 13, 1, 0] rfl h
set_option maxRecDepth 100000 in
set_option maxHeartbeats 4000000 in
theorem t_L_built_114 {l : Launch} {G : Gx} {P : Int32 → Mem → Prop} (hG : Mn G) (a1 : Int32) (a2 : Int32) (a3 : Int32) (a4 : Int32) (a5 : Int32) (a6 : Int32) (a7 : Int64) (a9 : Int32) (a10 : Int32) (a12 : Int32) (a13 : Int32) (a14 : Int32) (mem : Mem)
    (h : (a13 = (-9) → ((¬ a14 = 0 → (XI l M_L_built G P mem 176 [(0, .ref (gA G 0)), (1, .int a1), (2, .int a2), (3, .int a3), (4, .int a4), (5, .int a5), (6, .int a6), (7, .long a7), (9, .int a9), (10, .int a10), (12, .int a12), (13, .int a13), (14, .int a14)] [])) ∧ (a14 = 0 → (∃ Q3 : Int32 → Mem → Prop, CtI l M_X6_distance G [.ref (gA G 0), .int a12, .int a3] mem Q3 ∧ ∀ (r5 : Int32) (m6 : Mem), Q3 r5 m6 → ((¬ a13 = r5 → (XI l M_L_built G P m6 176 [(0, .ref (gA G 0)), (1, .int a1), (2, .int a2), (3, .int a3), (4, .int a4), (5, .int a5), (6, .int a6), (7, .long a7), (9, .int a9), (10, .int a10), (12, .int a12), (13, .int a13), (14, .int a14)] [])) ∧ (a13 = r5 → ((a13 ≤ 0 → ((a14 = 0 → ((¬ (0 : Int32) = 0 → (XI l M_L_built G P m6 176 [(0, .ref (gA G 0)), (1, .int a1), (2, .int a2), (3, .int a3), (4, .int a4), (5, .int a5), (6, .int a6), (7, .long a7), (9, .int a9), (10, .int a10), (12, .int a12), (13, .int a13), (14, .int a14)] [])) ∧ ((0 : Int32) = 0 → (XI l M_L_built G P m6 179 [(0, .ref (gA G 0)), (1, .int a1), (2, .int a2), (3, .int a3), (4, .int a4), (5, .int a5), (6, .int a6), (7, .long a7), (9, .int a9), (10, .int a10), (11, .int 1), (12, .int a12), (13, .int a13), (14, .int a14)] [])))) ∧ (¬ a14 = 0 → ((a3 = a12 → ((¬ (0 : Int32) = 0 → (XI l M_L_built G P m6 176 [(0, .ref (gA G 0)), (1, .int a1), (2, .int a2), (3, .int a3), (4, .int a4), (5, .int a5), (6, .int a6), (7, .long a7), (9, .int a9), (10, .int a10), (12, .int a12), (13, .int a13), (14, .int a14)] [])) ∧ ((0 : Int32) = 0 → (XI l M_L_built G P m6 179 [(0, .ref (gA G 0)), (1, .int a1), (2, .int a2), (3, .int a3), (4, .int a4), (5, .int a5), (6, .int a6), (7, .long a7), (9, .int a9), (10, .int a10), (11, .int 1), (12, .int a12), (13, .int a13), (14, .int a14)] [])))) ∧ (¬ a3 = a12 → ((¬ (0 : Int32) = 1 → (XI l M_L_built G P m6 176 [(0, .ref (gA G 0)), (1, .int a1), (2, .int a2), (3, .int a3), (4, .int a4), (5, .int a5), (6, .int a6), (7, .long a7), (9, .int a9), (10, .int a10), (12, .int a12), (13, .int a13), (14, .int a14)] [])) ∧ ((0 : Int32) = 1 → (XI l M_L_built G P m6 179 [(0, .ref (gA G 0)), (1, .int a1), (2, .int a2), (3, .int a3), (4, .int a4), (5, .int a5), (6, .int a6), (7, .long a7), (9, .int a9), (10, .int a10), (11, .int 1), (12, .int a12), (13, .int a13), (14, .int a14)] [])))))))) ∧ (¬ a13 ≤ 0 → ((a14 = 0 → ((¬ (1 : Int32) = 0 → (XI l M_L_built G P m6 176 [(0, .ref (gA G 0)), (1, .int a1), (2, .int a2), (3, .int a3), (4, .int a4), (5, .int a5), (6, .int a6), (7, .long a7), (9, .int a9), (10, .int a10), (12, .int a12), (13, .int a13), (14, .int a14)] [])) ∧ ((1 : Int32) = 0 → (XI l M_L_built G P m6 179 [(0, .ref (gA G 0)), (1, .int a1), (2, .int a2), (3, .int a3), (4, .int a4), (5, .int a5), (6, .int a6), (7, .long a7), (9, .int a9), (10, .int a10), (11, .int 1), (12, .int a12), (13, .int a13), (14, .int a14)] [])))) ∧ (¬ a14 = 0 → ((a3 = a12 → ((¬ (1 : Int32) = 0 → (XI l M_L_built G P m6 176 [(0, .ref (gA G 0)), (1, .int a1), (2, .int a2), (3, .int a3), (4, .int a4), (5, .int a5), (6, .int a6), (7, .long a7), (9, .int a9), (10, .int a10), (12, .int a12), (13, .int a13), (14, .int a14)] [])) ∧ ((1 : Int32) = 0 → (XI l M_L_built G P m6 179 [(0, .ref (gA G 0)), (1, .int a1), (2, .int a2), (3, .int a3), (4, .int a4), (5, .int a5), (6, .int a6), (7, .long a7), (9, .int a9), (10, .int a10), (11, .int 1), (12, .int a12), (13, .int a13), (14, .int a14)] [])))) ∧ (¬ a3 = a12 → ((¬ (1 : Int32) = 1 → (XI l M_L_built G P m6 176 [(0, .ref (gA G 0)), (1, .int a1), (2, .int a2), (3, .int a3), (4, .int a4), (5, .int a5), (6, .int a6), (7, .long a7), (9, .int a9), (10, .int a10), (12, .int a12), (13, .int a13), (14, .int a14)] [])) ∧ ((1 : Int32) = 1 → (XI l M_L_built G P m6 179 [(0, .ref (gA G 0)), (1, .int a1), (2, .int a2), (3, .int a3), (4, .int a4), (5, .int a5), (6, .int a6), (7, .long a7), (9, .int a9), (10, .int a10), (11, .int 1), (12, .int a12), (13, .int a13), (14, .int a14)] []))))))))))))))) ∧ (¬ a13 = (-9) → ((¬ a14 = 1 → (XI l M_L_built G P mem 176 [(0, .ref (gA G 0)), (1, .int a1), (2, .int a2), (3, .int a3), (4, .int a4), (5, .int a5), (6, .int a6), (7, .long a7), (9, .int a9), (10, .int a10), (12, .int a12), (13, .int a13), (14, .int a14)] [])) ∧ (a14 = 1 → (∃ Q21 : Int32 → Mem → Prop, CtI l M_X6_distance G [.ref (gA G 0), .int a12, .int a3] mem Q21 ∧ ∀ (r23 : Int32) (m24 : Mem), Q21 r23 m24 → ((¬ a13 = r23 → (XI l M_L_built G P m24 176 [(0, .ref (gA G 0)), (1, .int a1), (2, .int a2), (3, .int a3), (4, .int a4), (5, .int a5), (6, .int a6), (7, .long a7), (9, .int a9), (10, .int a10), (12, .int a12), (13, .int a13), (14, .int a14)] [])) ∧ (a13 = r23 → ((a13 ≤ 0 → ((a14 = 0 → ((¬ (0 : Int32) = 0 → (XI l M_L_built G P m24 176 [(0, .ref (gA G 0)), (1, .int a1), (2, .int a2), (3, .int a3), (4, .int a4), (5, .int a5), (6, .int a6), (7, .long a7), (9, .int a9), (10, .int a10), (12, .int a12), (13, .int a13), (14, .int a14)] [])) ∧ ((0 : Int32) = 0 → (XI l M_L_built G P m24 179 [(0, .ref (gA G 0)), (1, .int a1), (2, .int a2), (3, .int a3), (4, .int a4), (5, .int a5), (6, .int a6), (7, .long a7), (9, .int a9), (10, .int a10), (11, .int 1), (12, .int a12), (13, .int a13), (14, .int a14)] [])))) ∧ (¬ a14 = 0 → ((a3 = a12 → ((¬ (0 : Int32) = 0 → (XI l M_L_built G P m24 176 [(0, .ref (gA G 0)), (1, .int a1), (2, .int a2), (3, .int a3), (4, .int a4), (5, .int a5), (6, .int a6), (7, .long a7), (9, .int a9), (10, .int a10), (12, .int a12), (13, .int a13), (14, .int a14)] [])) ∧ ((0 : Int32) = 0 → (XI l M_L_built G P m24 179 [(0, .ref (gA G 0)), (1, .int a1), (2, .int a2), (3, .int a3), (4, .int a4), (5, .int a5), (6, .int a6), (7, .long a7), (9, .int a9), (10, .int a10), (11, .int 1), (12, .int a12), (13, .int a13), (14, .int a14)] [])))) ∧ (¬ a3 = a12 → ((¬ (0 : Int32) = 1 → (XI l M_L_built G P m24 176 [(0, .ref (gA G 0)), (1, .int a1), (2, .int a2), (3, .int a3), (4, .int a4), (5, .int a5), (6, .int a6), (7, .long a7), (9, .int a9), (10, .int a10), (12, .int a12), (13, .int a13), (14, .int a14)] [])) ∧ ((0 : Int32) = 1 → (XI l M_L_built G P m24 179 [(0, .ref (gA G 0)), (1, .int a1), (2, .int a2), (3, .int a3), (4, .int a4), (5, .int a5), (6, .int a6), (7, .long a7), (9, .int a9), (10, .int a10), (11, .int 1), (12, .int a12), (13, .int a13), (14, .int a14)] [])))))))) ∧ (¬ a13 ≤ 0 → ((a14 = 0 → ((¬ (1 : Int32) = 0 → (XI l M_L_built G P m24 176 [(0, .ref (gA G 0)), (1, .int a1), (2, .int a2), (3, .int a3), (4, .int a4), (5, .int a5), (6, .int a6), (7, .long a7), (9, .int a9), (10, .int a10), (12, .int a12), (13, .int a13), (14, .int a14)] [])) ∧ ((1 : Int32) = 0 → (XI l M_L_built G P m24 179 [(0, .ref (gA G 0)), (1, .int a1), (2, .int a2), (3, .int a3), (4, .int a4), (5, .int a5), (6, .int a6), (7, .long a7), (9, .int a9), (10, .int a10), (11, .int 1), (12, .int a12), (13, .int a13), (14, .int a14)] [])))) ∧ (¬ a14 = 0 → ((a3 = a12 → ((¬ (1 : Int32) = 0 → (XI l M_L_built G P m24 176 [(0, .ref (gA G 0)), (1, .int a1), (2, .int a2), (3, .int a3), (4, .int a4), (5, .int a5), (6, .int a6), (7, .long a7), (9, .int a9), (10, .int a10), (12, .int a12), (13, .int a13), (14, .int a14)] [])) ∧ ((1 : Int32) = 0 → (XI l M_L_built G P m24 179 [(0, .ref (gA G 0)), (1, .int a1), (2, .int a2), (3, .int a3), (4, .int a4), (5, .int a5), (6, .int a6), (7, .long a7), (9, .int a9), (10, .int a10), (11, .int 1), (12, .int a12), (13, .int a13), (14, .int a14)] [])))) ∧ (¬ a3 = a12 → ((¬ (1 : Int32) = 1 → (XI l M_L_built G P m24 176 [(0, .ref (gA G 0)), (1, .int a1), (2, .int a2), (3, .int a3), (4, .int a4), (5, .int a5), (6, .int a6), (7, .long a7), (9, .int a9), (10, .int a10), (12, .int a12), (13, .int a13), (14, .int a14)] [])) ∧ ((1 : Int32) = 1 → (XI l M_L_built G P m24 179 [(0, .ref (gA G 0)), (1, .int a1), (2, .int a2), (3, .int a3), (4, .int a4), (5, .int a5), (6, .int a6), (7, .long a7), (9, .int a9), (10, .int a10), (11, .int 1), (12, .int a12), (13, .int a13), (14, .int a14)] [])))))))))))))))) :
    XI l M_L_built G P mem 114 [(0, .ref (gA G 0)), (1, .int a1), (2, .int a2), (3, .int a3), (4, .int a4), (5, .int a5), (6, .int a6), (7, .long a7), (9, .int a9), (10, .int a10), (12, .int a12), (13, .int a13), (14, .int a14)] [] := by
  refine x_iload (pc := 114) dL_built_114 12 rfl ?_
  refine x_iload (pc := 116) dL_built_116 11 rfl ?_
  refine x_bipush (pc := 118) (v := (-9)) dL_built_118 (by decide) ?_
  refine x_icmp_eq (pc := 120) (tgt := 127) dL_built_120 (by decide) (fun c1 => ?_) (fun c1 => ?_)
  · have h := h.1 c1
    refine x_iconst (pc := 127) (v := 0) dL_built_127 (by decide) ?_
    refine x_icmp_ne (pc := 128) (tgt := 176) dL_built_128 (by decide) (fun c2 => ?_) (fun c2 => ?_)
    · have h := h.1 c2
      exact x_sub [0, 1, 2, 3, 4, 5, 6, 7, 8, 9, 10, 11, 12] rfl h
    · have h := h.2 c2
      refine x_iload (pc := 131) dL_built_131 11 rfl ?_
      refine x_aload_n (pc := 133) dL_built_133 0 rfl rfl ?_
      refine x_iload (pc := 134) dL_built_134 10 rfl ?_
      refine x_iload_n (pc := 136) dL_built_136 3 rfl rfl ?_
      obtain ⟨Q3, hc4, h⟩ := h
      refine x_callVI (pc := 137) 0 hc4 ok_X6_distance dL_built_137 tb_356 ⟨⟨rfl, rfl⟩, ⟨by decide, by decide⟩, by decide, by decide⟩ (mK hG (by decide)) (mc_0 hG _) rfl (As := [.int a12, .int a3]) rfl rfl (Nat.le_of_ble_eq_true rfl) (fun r5 m6 q7 => ?_)
      have h := h r5 m6 q7
      refine x_icmp_ne (pc := 140) (tgt := 176) dL_built_140 (by decide) (fun c8 => ?_) (fun c8 => ?_)
      · have h := h.1 c8
        exact x_sub [0, 1, 2, 3, 4, 5, 6, 7, 8, 9, 10, 11, 12] rfl h
      · have h := h.2 c8
        refine x_iload (pc := 143) dL_built_143 11 rfl ?_
        refine x_if_le (pc := 145) (tgt := 152) dL_built_145 (by decide) (fun c9 => ?_) (fun c9 => ?_)
        · have h := h.1 c9
          refine x_iconst (pc := 152) (v := 0) dL_built_152 (by decide) ?_
          refine x_iload (pc := 153) dL_built_153 12 rfl ?_
          refine x_if_eq (pc := 155) (tgt := 168) dL_built_155 (by decide) (fun c10 => ?_) (fun c10 => ?_)
          · have h := h.1 c10
            refine x_iconst (pc := 168) (v := 0) dL_built_168 (by decide) ?_
            refine x_icmp_ne (pc := 169) (tgt := 176) dL_built_169 (by decide) (fun c11 => ?_) (fun c11 => ?_)
            · have h := h.1 c11
              exact x_sub [0, 1, 2, 3, 4, 5, 6, 7, 8, 9, 10, 11, 12] rfl h
            · have h := h.2 c11
              refine x_iconst (pc := 172) (v := 1) dL_built_172 (by decide) ?_
              refine x_goto (pc := 173) (tgt := 177) dL_built_173 (by decide) ?_
              refine x_istore (pc := 177) dL_built_177 (by decide) rfl ?_
              exact x_sub [1, 2, 3, 4, 5, 6, 7, 8, 9, 10, 0, 11, 12, 13] rfl h
          · have h := h.2 c10
            refine x_iload_n (pc := 158) dL_built_158 3 rfl rfl ?_
            refine x_iload (pc := 159) dL_built_159 10 rfl ?_
            refine x_icmp_eq (pc := 161) (tgt := 168) dL_built_161 (by decide) (fun c12 => ?_) (fun c12 => ?_)
            · have h := h.1 c12
              refine x_iconst (pc := 168) (v := 0) dL_built_168 (by decide) ?_
              refine x_icmp_ne (pc := 169) (tgt := 176) dL_built_169 (by decide) (fun c13 => ?_) (fun c13 => ?_)
              · have h := h.1 c13
                exact x_sub [0, 1, 2, 3, 4, 5, 6, 7, 8, 9, 10, 11, 12] rfl h
              · have h := h.2 c13
                refine x_iconst (pc := 172) (v := 1) dL_built_172 (by decide) ?_
                refine x_goto (pc := 173) (tgt := 177) dL_built_173 (by decide) ?_
                refine x_istore (pc := 177) dL_built_177 (by decide) rfl ?_
                exact x_sub [1, 2, 3, 4, 5, 6, 7, 8, 9, 10, 0, 11, 12, 13] rfl h
            · have h := h.2 c12
              refine x_iconst (pc := 164) (v := 1) dL_built_164 (by decide) ?_
              refine x_goto (pc := 165) (tgt := 169) dL_built_165 (by decide) ?_
              refine x_icmp_ne (pc := 169) (tgt := 176) dL_built_169 (by decide) (fun c14 => ?_) (fun c14 => ?_)
              · have h := h.1 c14
                exact x_sub [0, 1, 2, 3, 4, 5, 6, 7, 8, 9, 10, 11, 12] rfl h
              · have h := h.2 c14
                refine x_iconst (pc := 172) (v := 1) dL_built_172 (by decide) ?_
                refine x_goto (pc := 173) (tgt := 177) dL_built_173 (by decide) ?_
                refine x_istore (pc := 177) dL_built_177 (by decide) rfl ?_
                exact x_sub [1, 2, 3, 4, 5, 6, 7, 8, 9, 10, 0, 11, 12, 13] rfl h
        · have h := h.2 c9
          refine x_iconst (pc := 148) (v := 1) dL_built_148 (by decide) ?_
          refine x_goto (pc := 149) (tgt := 153) dL_built_149 (by decide) ?_
          refine x_iload (pc := 153) dL_built_153 12 rfl ?_
          refine x_if_eq (pc := 155) (tgt := 168) dL_built_155 (by decide) (fun c15 => ?_) (fun c15 => ?_)
          · have h := h.1 c15
            refine x_iconst (pc := 168) (v := 0) dL_built_168 (by decide) ?_
            refine x_icmp_ne (pc := 169) (tgt := 176) dL_built_169 (by decide) (fun c16 => ?_) (fun c16 => ?_)
            · have h := h.1 c16
              exact x_sub [0, 1, 2, 3, 4, 5, 6, 7, 8, 9, 10, 11, 12] rfl h
            · have h := h.2 c16
              refine x_iconst (pc := 172) (v := 1) dL_built_172 (by decide) ?_
              refine x_goto (pc := 173) (tgt := 177) dL_built_173 (by decide) ?_
              refine x_istore (pc := 177) dL_built_177 (by decide) rfl ?_
              exact x_sub [1, 2, 3, 4, 5, 6, 7, 8, 9, 10, 0, 11, 12, 13] rfl h
          · have h := h.2 c15
            refine x_iload_n (pc := 158) dL_built_158 3 rfl rfl ?_
            refine x_iload (pc := 159) dL_built_159 10 rfl ?_
            refine x_icmp_eq (pc := 161) (tgt := 168) dL_built_161 (by decide) (fun c17 => ?_) (fun c17 => ?_)
            · have h := h.1 c17
              refine x_iconst (pc := 168) (v := 0) dL_built_168 (by decide) ?_
              refine x_icmp_ne (pc := 169) (tgt := 176) dL_built_169 (by decide) (fun c18 => ?_) (fun c18 => ?_)
              · have h := h.1 c18
                exact x_sub [0, 1, 2, 3, 4, 5, 6, 7, 8, 9, 10, 11, 12] rfl h
              · have h := h.2 c18
                refine x_iconst (pc := 172) (v := 1) dL_built_172 (by decide) ?_
                refine x_goto (pc := 173) (tgt := 177) dL_built_173 (by decide) ?_
                refine x_istore (pc := 177) dL_built_177 (by decide) rfl ?_
                exact x_sub [1, 2, 3, 4, 5, 6, 7, 8, 9, 10, 0, 11, 12, 13] rfl h
            · have h := h.2 c17
              refine x_iconst (pc := 164) (v := 1) dL_built_164 (by decide) ?_
              refine x_goto (pc := 165) (tgt := 169) dL_built_165 (by decide) ?_
              refine x_icmp_ne (pc := 169) (tgt := 176) dL_built_169 (by decide) (fun c19 => ?_) (fun c19 => ?_)
              · have h := h.1 c19
                exact x_sub [0, 1, 2, 3, 4, 5, 6, 7, 8, 9, 10, 11, 12] rfl h
              · have h := h.2 c19
                refine x_iconst (pc := 172) (v := 1) dL_built_172 (by decide) ?_
                refine x_goto (pc := 173) (tgt := 177) dL_built_173 (by decide) ?_
                refine x_istore (pc := 177) dL_built_177 (by decide) rfl ?_
                exact x_sub [1, 2, 3, 4, 5, 6, 7, 8, 9, 10, 0, 11, 12, 13] rfl h
  · have h := h.2 c1
    refine x_iconst (pc := 123) (v := 1) dL_built_123 (by decide) ?_
    refine x_goto (pc := 124) (tgt := 128) dL_built_124 (by decide) ?_
    refine x_icmp_ne (pc := 128) (tgt := 176) dL_built_128 (by decide) (fun c20 => ?_) (fun c20 => ?_)
    · have h := h.1 c20
      exact x_sub [0, 1, 2, 3, 4, 5, 6, 7, 8, 9, 10, 11, 12] rfl h
    · have h := h.2 c20
      refine x_iload (pc := 131) dL_built_131 11 rfl ?_
      refine x_aload_n (pc := 133) dL_built_133 0 rfl rfl ?_
      refine x_iload (pc := 134) dL_built_134 10 rfl ?_
      refine x_iload_n (pc := 136) dL_built_136 3 rfl rfl ?_
      obtain ⟨Q21, hc22, h⟩ := h
      refine x_callVI (pc := 137) 0 hc22 ok_X6_distance dL_built_137 tb_356 ⟨⟨rfl, rfl⟩, ⟨by decide, by decide⟩, by decide, by decide⟩ (mK hG (by decide)) (mc_0 hG _) rfl (As := [.int a12, .int a3]) rfl rfl (Nat.le_of_ble_eq_true rfl) (fun r23 m24 q25 => ?_)
      have h := h r23 m24 q25
      refine x_icmp_ne (pc := 140) (tgt := 176) dL_built_140 (by decide) (fun c26 => ?_) (fun c26 => ?_)
      · have h := h.1 c26
        exact x_sub [0, 1, 2, 3, 4, 5, 6, 7, 8, 9, 10, 11, 12] rfl h
      · have h := h.2 c26
        refine x_iload (pc := 143) dL_built_143 11 rfl ?_
        refine x_if_le (pc := 145) (tgt := 152) dL_built_145 (by decide) (fun c27 => ?_) (fun c27 => ?_)
        · have h := h.1 c27
          refine x_iconst (pc := 152) (v := 0) dL_built_152 (by decide) ?_
          refine x_iload (pc := 153) dL_built_153 12 rfl ?_
          refine x_if_eq (pc := 155) (tgt := 168) dL_built_155 (by decide) (fun c28 => ?_) (fun c28 => ?_)
          · have h := h.1 c28
            refine x_iconst (pc := 168) (v := 0) dL_built_168 (by decide) ?_
            refine x_icmp_ne (pc := 169) (tgt := 176) dL_built_169 (by decide) (fun c29 => ?_) (fun c29 => ?_)
            · have h := h.1 c29
              exact x_sub [0, 1, 2, 3, 4, 5, 6, 7, 8, 9, 10, 11, 12] rfl h
            · have h := h.2 c29
              refine x_iconst (pc := 172) (v := 1) dL_built_172 (by decide) ?_
              refine x_goto (pc := 173) (tgt := 177) dL_built_173 (by decide) ?_
              refine x_istore (pc := 177) dL_built_177 (by decide) rfl ?_
              exact x_sub [1, 2, 3, 4, 5, 6, 7, 8, 9, 10, 0, 11, 12, 13] rfl h
          · have h := h.2 c28
            refine x_iload_n (pc := 158) dL_built_158 3 rfl rfl ?_
            refine x_iload (pc := 159) dL_built_159 10 rfl ?_
            refine x_icmp_eq (pc := 161) (tgt := 168) dL_built_161 (by decide) (fun c30 => ?_) (fun c30 => ?_)
            · have h := h.1 c30
              refine x_iconst (pc := 168) (v := 0) dL_built_168 (by decide) ?_
              refine x_icmp_ne (pc := 169) (tgt := 176) dL_built_169 (by decide) (fun c31 => ?_) (fun c31 => ?_)
              · have h := h.1 c31
                exact x_sub [0, 1, 2, 3, 4, 5, 6, 7, 8, 9, 10, 11, 12] rfl h
              · have h := h.2 c31
                refine x_iconst (pc := 172) (v := 1) dL_built_172 (by decide) ?_
                refine x_goto (pc := 173) (tgt := 177) dL_built_173 (by decide) ?_
                refine x_istore (pc := 177) dL_built_177 (by decide) rfl ?_
                exact x_sub [1, 2, 3, 4, 5, 6, 7, 8, 9, 10, 0, 11, 12, 13] rfl h
            · have h := h.2 c30
              refine x_iconst (pc := 164) (v := 1) dL_built_164 (by decide) ?_
              refine x_goto (pc := 165) (tgt := 169) dL_built_165 (by decide) ?_
              refine x_icmp_ne (pc := 169) (tgt := 176) dL_built_169 (by decide) (fun c32 => ?_) (fun c32 => ?_)
              · have h := h.1 c32
                exact x_sub [0, 1, 2, 3, 4, 5, 6, 7, 8, 9, 10, 11, 12] rfl h
              · have h := h.2 c32
                refine x_iconst (pc := 172) (v := 1) dL_built_172 (by decide) ?_
                refine x_goto (pc := 173) (tgt := 177) dL_built_173 (by decide) ?_
                refine x_istore (pc := 177) dL_built_177 (by decide) rfl ?_
                exact x_sub [1, 2, 3, 4, 5, 6, 7, 8, 9, 10, 0, 11, 12, 13] rfl h
        · have h := h.2 c27
          refine x_iconst (pc := 148) (v := 1) dL_built_148 (by decide) ?_
          refine x_goto (pc := 149) (tgt := 153) dL_built_149 (by decide) ?_
          refine x_iload (pc := 153) dL_built_153 12 rfl ?_
          refine x_if_eq (pc := 155) (tgt := 168) dL_built_155 (by decide) (fun c33 => ?_) (fun c33 => ?_)
          · have h := h.1 c33
            refine x_iconst (pc := 168) (v := 0) dL_built_168 (by decide) ?_
            refine x_icmp_ne (pc := 169) (tgt := 176) dL_built_169 (by decide) (fun c34 => ?_) (fun c34 => ?_)
            · have h := h.1 c34
              exact x_sub [0, 1, 2, 3, 4, 5, 6, 7, 8, 9, 10, 11, 12] rfl h
            · have h := h.2 c34
              refine x_iconst (pc := 172) (v := 1) dL_built_172 (by decide) ?_
              refine x_goto (pc := 173) (tgt := 177) dL_built_173 (by decide) ?_
              refine x_istore (pc := 177) dL_built_177 (by decide) rfl ?_
              exact x_sub [1, 2, 3, 4, 5, 6, 7, 8, 9, 10, 0, 11, 12, 13] rfl h
          · have h := h.2 c33
            refine x_iload_n (pc := 158) dL_built_158 3 rfl rfl ?_
            refine x_iload (pc := 159) dL_built_159 10 rfl ?_
            refine x_icmp_eq (pc := 161) (tgt := 168) dL_built_161 (by decide) (fun c35 => ?_) (fun c35 => ?_)
            · have h := h.1 c35
              refine x_iconst (pc := 168) (v := 0) dL_built_168 (by decide) ?_
              refine x_icmp_ne (pc := 169) (tgt := 176) dL_built_169 (by decide) (fun c36 => ?_) (fun c36 => ?_)
              · have h := h.1 c36
                exact x_sub [0, 1, 2, 3, 4, 5, 6, 7, 8, 9, 10, 11, 12] rfl h
              · have h := h.2 c36
                refine x_iconst (pc := 172) (v := 1) dL_built_172 (by decide) ?_
                refine x_goto (pc := 173) (tgt := 177) dL_built_173 (by decide) ?_
                refine x_istore (pc := 177) dL_built_177 (by decide) rfl ?_
                exact x_sub [1, 2, 3, 4, 5, 6, 7, 8, 9, 10, 0, 11, 12, 13] rfl h
            · have h := h.2 c35
              refine x_iconst (pc := 164) (v := 1) dL_built_164 (by decide) ?_
              refine x_goto (pc := 165) (tgt := 169) dL_built_165 (by decide) ?_
              refine x_icmp_ne (pc := 169) (tgt := 176) dL_built_169 (by decide) (fun c37 => ?_) (fun c37 => ?_)
              · have h := h.1 c37
                exact x_sub [0, 1, 2, 3, 4, 5, 6, 7, 8, 9, 10, 11, 12] rfl h
              · have h := h.2 c37
                refine x_iconst (pc := 172) (v := 1) dL_built_172 (by decide) ?_
                refine x_goto (pc := 173) (tgt := 177) dL_built_173 (by decide) ?_
                refine x_istore (pc := 177) dL_built_177 (by decide) rfl ?_
                exact x_sub [1, 2, 3, 4, 5, 6, 7, 8, 9, 10, 0, 11, 12, 13] rfl h
set_option maxRecDepth 100000 in
set_option maxHeartbeats 4000000 in
theorem t_L_built_176 {l : Launch} {G : Gx} {P : Int32 → Mem → Prop} (hG : Mn G) (a1 : Int32) (a2 : Int32) (a3 : Int32) (a4 : Int32) (a5 : Int32) (a6 : Int32) (a7 : Int64) (a9 : Int32) (a10 : Int32) (a12 : Int32) (a13 : Int32) (a14 : Int32) (mem : Mem)
    (h : XI l M_L_built G P mem 179 [(0, .ref (gA G 0)), (1, .int a1), (2, .int a2), (3, .int a3), (4, .int a4), (5, .int a5), (6, .int a6), (7, .long a7), (9, .int a9), (10, .int a10), (11, .int 0), (12, .int a12), (13, .int a13), (14, .int a14)] []) :
    XI l M_L_built G P mem 176 [(0, .ref (gA G 0)), (1, .int a1), (2, .int a2), (3, .int a3), (4, .int a4), (5, .int a5), (6, .int a6), (7, .long a7), (9, .int a9), (10, .int a10), (12, .int a12), (13, .int a13), (14, .int a14)] [] := by
  refine x_iconst (pc := 176) (v := 0) dL_built_176 (by decide) ?_
  refine x_istore (pc := 177) dL_built_177 (by decide) rfl ?_
  exact x_sub [1, 2, 3, 4, 5, 6, 7, 8, 9, 10, 0, 11, 12, 13] rfl h
set_option maxRecDepth 100000 in
set_option maxHeartbeats 4000000 in
theorem t_L_built_179 {l : Launch} {G : Gx} {P : Int32 → Mem → Prop} (hG : Mn G) (a1 : Int32) (a2 : Int32) (a3 : Int32) (a4 : Int32) (a5 : Int32) (a6 : Int32) (a7 : Int64) (a9 : Int32) (a10 : Int32) (a11 : Int32) (a12 : Int32) (a13 : Int32) (a14 : Int32) (mem : Mem)
    (h : (¬ a14 = 0 → ((a13 ≤ a10 → (XI l M_L_built G P mem 241 [(0, .ref (gA G 0)), (1, .int a1), (2, .int a2), (3, .int a3), (4, .int a4), (5, .int a5), (6, .int a6), (7, .long a7), (9, .int a9), (10, .int a10), (11, .int a11), (12, .int a12), (13, .int a13)] [])) ∧ (¬ a13 ≤ a10 → (XI l M_L_built G P mem 241 [(0, .ref (gA G 0)), (1, .int a1), (2, .int a2), (3, .int a3), (4, .int a4), (5, .int a5), (6, .int a6), (7, .long a7), (9, .int a9), (10, .int a13), (11, .int a11), (12, .int a12), (13, .int a13)] [])))) ∧ (a14 = 0 → ((a11 = 0 → (XI l M_L_built G P mem 219 [(0, .ref (gA G 0)), (1, .int a1), (2, .int a2), (3, .int a3), (4, .int a4), (5, .int a5), (6, .int a6), (7, .long a7), (9, .int a9), (10, .int a10), (12, .int a12)] [])) ∧ (¬ a11 = 0 → (∃ Q4 : Int32 → Mem → Prop, CtI l M_X6_meeting G [.ref (gA G 0), .int a3, .int a12, .int a3] mem Q4 ∧ ∀ (r6 : Int32) (m7 : Mem), Q4 r6 m7 → ((¬ r6 = (-9) → (XI l M_L_built G P m7 219 [(0, .ref (gA G 0)), (1, .int a1), (2, .int a2), (3, .int a3), (4, .int a4), (5, .int a5), (6, .int a6), (7, .long a7), (9, .int a9), (10, .int a10), (12, .int a12)] [])) ∧ (r6 = (-9) → (∃ Q10 : Int32 → Mem → Prop, CtI l M_X6_pathVertex G [.ref (gA G 0), .int a3, .int a12, .int 0] m7 Q10 ∧ ∀ (r12 : Int32) (m13 : Mem), Q10 r12 m13 → ((¬ r12 = (-9) → (XI l M_L_built G P m13 219 [(0, .ref (gA G 0)), (1, .int a1), (2, .int a2), (3, .int a3), (4, .int a4), (5, .int a5), (6, .int a6), (7, .long a7), (9, .int a9), (10, .int a10), (12, .int a12)] [])) ∧ (r12 = (-9) → (XI l M_L_built G P m13 740 [(0, .ref (gA G 0)), (1, .int a1), (2, .int a2), (3, .int a3), (4, .int a4), (5, .int a5), (6, .int a6), (7, .long a7), (9, .int a9), (10, .int a10), (11, .int 1), (12, .int a12)] []))))))))))) :
    XI l M_L_built G P mem 179 [(0, .ref (gA G 0)), (1, .int a1), (2, .int a2), (3, .int a3), (4, .int a4), (5, .int a5), (6, .int a6), (7, .long a7), (9, .int a9), (10, .int a10), (11, .int a11), (12, .int a12), (13, .int a13), (14, .int a14)] [] := by
  refine x_iload (pc := 179) dL_built_179 13 rfl ?_
  refine x_if_ne (pc := 181) (tgt := 225) dL_built_181 (by decide) (fun c1 => ?_) (fun c1 => ?_)
  · have h := h.1 c1
    refine x_iload (pc := 225) dL_built_225 12 rfl ?_
    refine x_iload (pc := 227) dL_built_227 9 rfl ?_
    refine x_icmp_le (pc := 229) (tgt := 237) dL_built_229 (by decide) (fun c2 => ?_) (fun c2 => ?_)
    · have h := h.1 c2
      refine x_iload (pc := 237) dL_built_237 9 rfl ?_
      refine x_istore (pc := 239) dL_built_239 (by decide) rfl ?_
      exact x_sub [1, 2, 3, 4, 5, 6, 7, 8, 9, 0, 10, 11, 12] rfl h
    · have h := h.2 c2
      refine x_iload (pc := 232) dL_built_232 12 rfl ?_
      refine x_goto (pc := 234) (tgt := 239) dL_built_234 (by decide) ?_
      refine x_istore (pc := 239) dL_built_239 (by decide) rfl ?_
      exact x_sub [1, 2, 3, 4, 5, 6, 7, 8, 9, 0, 10, 11, 12] rfl h
  · have h := h.2 c1
    refine x_iload (pc := 184) dL_built_184 10 rfl ?_
    refine x_if_eq (pc := 186) (tgt := 219) dL_built_186 (by decide) (fun c3 => ?_) (fun c3 => ?_)
    · have h := h.1 c3
      exact x_sub [0, 1, 2, 3, 4, 5, 6, 7, 8, 9, 11] rfl h
    · have h := h.2 c3
      refine x_aload_n (pc := 189) dL_built_189 0 rfl rfl ?_
      refine x_iload_n (pc := 190) dL_built_190 3 rfl rfl ?_
      refine x_iload (pc := 191) dL_built_191 11 rfl ?_
      refine x_iload_n (pc := 193) dL_built_193 3 rfl rfl ?_
      obtain ⟨Q4, hc5, h⟩ := h
      refine x_callVI (pc := 194) 0 hc5 ok_X6_meeting dL_built_194 tb_432 ⟨⟨rfl, rfl⟩, ⟨by decide, by decide⟩, by decide, by decide⟩ (mK hG (by decide)) (mc_0 hG _) rfl (As := [.int a3, .int a12, .int a3]) rfl rfl (Nat.le_of_ble_eq_true rfl) (fun r6 m7 q8 => ?_)
      have h := h r6 m7 q8
      refine x_bipush (pc := 197) (v := (-9)) dL_built_197 (by decide) ?_
      refine x_icmp_ne (pc := 199) (tgt := 219) dL_built_199 (by decide) (fun c9 => ?_) (fun c9 => ?_)
      · have h := h.1 c9
        exact x_sub [0, 1, 2, 3, 4, 5, 6, 7, 8, 9, 11] rfl h
      · have h := h.2 c9
        refine x_aload_n (pc := 202) dL_built_202 0 rfl rfl ?_
        refine x_iload_n (pc := 203) dL_built_203 3 rfl rfl ?_
        refine x_iload (pc := 204) dL_built_204 11 rfl ?_
        refine x_iconst (pc := 206) (v := 0) dL_built_206 (by decide) ?_
        obtain ⟨Q10, hc11, h⟩ := h
        refine x_callVI (pc := 207) 0 hc11 ok_X6_pathVertex dL_built_207 tb_361 ⟨⟨rfl, rfl⟩, ⟨by decide, by decide⟩, by decide, by decide⟩ (mK hG (by decide)) (mc_0 hG _) rfl (As := [.int a3, .int a12, .int 0]) rfl rfl (Nat.le_of_ble_eq_true rfl) (fun r12 m13 q14 => ?_)
        have h := h r12 m13 q14
        refine x_bipush (pc := 210) (v := (-9)) dL_built_210 (by decide) ?_
        refine x_icmp_ne (pc := 212) (tgt := 219) dL_built_212 (by decide) (fun c15 => ?_) (fun c15 => ?_)
        · have h := h.1 c15
          exact x_sub [0, 1, 2, 3, 4, 5, 6, 7, 8, 9, 11] rfl h
        · have h := h.2 c15
          refine x_iconst (pc := 215) (v := 1) dL_built_215 (by decide) ?_
          refine x_goto (pc := 216) (tgt := 220) dL_built_216 (by decide) ?_
          refine x_istore (pc := 220) dL_built_220 (by decide) rfl ?_
          refine x_goto (pc := 222) (tgt := 740) dL_built_222 (by decide) ?_
          exact x_sub [1, 2, 3, 4, 5, 6, 7, 8, 9, 10, 0, 11] rfl h
set_option maxRecDepth 100000 in
set_option maxHeartbeats 4000000 in
theorem t_L_built_219 {l : Launch} {G : Gx} {P : Int32 → Mem → Prop} (hG : Mn G) (a1 : Int32) (a2 : Int32) (a3 : Int32) (a4 : Int32) (a5 : Int32) (a6 : Int32) (a7 : Int64) (a9 : Int32) (a10 : Int32) (a12 : Int32) (mem : Mem)
    (h : XI l M_L_built G P mem 740 [(0, .ref (gA G 0)), (1, .int a1), (2, .int a2), (3, .int a3), (4, .int a4), (5, .int a5), (6, .int a6), (7, .long a7), (9, .int a9), (10, .int a10), (11, .int 0), (12, .int a12)] []) :
    XI l M_L_built G P mem 219 [(0, .ref (gA G 0)), (1, .int a1), (2, .int a2), (3, .int a3), (4, .int a4), (5, .int a5), (6, .int a6), (7, .long a7), (9, .int a9), (10, .int a10), (12, .int a12)] [] := by
  refine x_iconst (pc := 219) (v := 0) dL_built_219 (by decide) ?_
  refine x_istore (pc := 220) dL_built_220 (by decide) rfl ?_
  refine x_goto (pc := 222) (tgt := 740) dL_built_222 (by decide) ?_
  exact x_sub [1, 2, 3, 4, 5, 6, 7, 8, 9, 10, 0, 11] rfl h
set_option maxRecDepth 100000 in
set_option maxHeartbeats 4000000 in
theorem t_L_built_241 {l : Launch} {G : Gx} {P : Int32 → Mem → Prop} (hG : Mn G) (a1 : Int32) (a2 : Int32) (a3 : Int32) (a4 : Int32) (a5 : Int32) (a6 : Int32) (a7 : Int64) (a9 : Int32) (a10 : Int32) (a11 : Int32) (a12 : Int32) (a13 : Int32) (mem : Mem)
    (h : ∃ Q1 : Int32 → Mem → Prop, CtI l M_X6_vertexWeight G [.ref (gA G 0), .int a12] mem Q1 ∧ ∀ (r3 : Int32) (m4 : Mem), Q1 r3 m4 → (XI l M_L_built G P m4 264 [(0, .ref (gA G 0)), (1, .int a1), (2, .int a2), (3, .int a3), (4, .int a4), (5, .int a5), (6, .int a6), (7, .long a7), (9, .int (a9 + (a13 * r3))), (10, .int a10), (11, .int a11), (12, .int a12), (13, .int a13), (15, .int 0), (16, .int a3), (17, .int 0)] [])) :
    XI l M_L_built G P mem 241 [(0, .ref (gA G 0)), (1, .int a1), (2, .int a2), (3, .int a3), (4, .int a4), (5, .int a5), (6, .int a6), (7, .long a7), (9, .int a9), (10, .int a10), (11, .int a11), (12, .int a12), (13, .int a13)] [] := by
  refine x_iload (pc := 241) dL_built_241 8 rfl ?_
  refine x_iload (pc := 243) dL_built_243 12 rfl ?_
  refine x_aload_n (pc := 245) dL_built_245 0 rfl rfl ?_
  refine x_iload (pc := 246) dL_built_246 11 rfl ?_
  obtain ⟨Q1, hc2, h⟩ := h
  refine x_callVI (pc := 248) 0 hc2 ok_X6_vertexWeight dL_built_248 tb_234 ⟨⟨rfl, rfl⟩, ⟨by decide, by decide⟩, by decide, by decide⟩ (mK hG (by decide)) (mc_0 hG _) rfl (As := [.int a12]) rfl rfl (Nat.le_of_ble_eq_true rfl) (fun r3 m4 q5 => ?_)
  have h := h r3 m4 q5
  refine x_imul (pc := 251) dL_built_251 ?_
  refine x_iadd (pc := 252) dL_built_252 ?_
  refine x_istore (pc := 253) dL_built_253 (by decide) rfl ?_
  refine x_iconst (pc := 255) (v := 0) dL_built_255 (by decide) ?_
  refine x_istore (pc := 256) dL_built_256 (by decide) rfl ?_
  refine x_iload_n (pc := 258) dL_built_258 5 rfl rfl ?_
  refine x_istore (pc := 259) dL_built_259 (by decide) rfl ?_
  refine x_iconst (pc := 261) (v := 0) dL_built_261 (by decide) ?_
  refine x_istore (pc := 262) dL_built_262 (by decide) rfl ?_
  exact x_sub [4, 5, 6, 7, 8, 9, 10, 11, 3, 12, 13, 14, 15, 2, 1, 0] rfl h
set_option maxRecDepth 100000 in
set_option maxHeartbeats 4000000 in
theorem t_L_built_264 {l : Launch} {G : Gx} {P : Int32 → Mem → Prop} (hG : Mn G) (a1 : Int32) (a2 : Int32) (a3 : Int32) (a4 : Int32) (a5 : Int32) (a6 : Int32) (a7 : Int64) (a9 : Int32) (a10 : Int32) (a11 : Int32) (a12 : Int32) (a13 : Int32) (a15 : Int32) (a16 : Int32) (a17 : Int32) (mem : Mem)
    (h : (a16 = a12 → (XI l M_L_built G P mem 346 [(0, .ref (gA G 0)), (1, .int a1), (2, .int a2), (3, .int a3), (4, .int a4), (5, .int a5), (6, .int a6), (7, .long a7), (9, .int a9), (10, .int a10), (11, .int a11), (12, .int a12), (13, .int a13), (15, .int a15), (17, .int a17)] [])) ∧ (¬ a16 = a12 → ((a11 = 0 → (XI l M_L_built G P mem 346 [(0, .ref (gA G 0)), (1, .int a1), (2, .int a2), (3, .int a3), (4, .int a4), (5, .int a5), (6, .int a6), (7, .long a7), (9, .int a9), (10, .int a10), (11, .int a11), (12, .int a12), (13, .int a13), (15, .int a15), (17, .int a17)] [])) ∧ (¬ a11 = 0 → (∃ Q3 : Int32 → Mem → Prop, CtI l M_X6_pathVertex G [.ref (gA G 0), .int a3, .int a12, .int (a17 + 1)] mem Q3 ∧ ∀ (r5 : Int32) (m6 : Mem), Q3 r5 m6 → ((r5 < 0 → (XI l M_L_built G P m6 323 [(0, .ref (gA G 0)), (1, .int a1), (2, .int a2), (3, .int a3), (4, .int a4), (5, .int a5), (6, .int a6), (7, .long a7), (9, .int a9), (10, .int a10), (12, .int a12), (13, .int a13), (15, .int a15), (16, .int a16), (17, .int (a17 + 1)), (18, .int r5)] [])) ∧ (¬ r5 < 0 → (∃ Q9 : Int32 → Mem → Prop, CtI l M_X6_edgeWeight G [.ref (gA G 0), .int a16, .int r5] m6 Q9 ∧ ∀ (r11 : Int32) (m12 : Mem), Q9 r11 m12 → ((r11 ≤ 0 → (XI l M_L_built G P m12 323 [(0, .ref (gA G 0)), (1, .int a1), (2, .int a2), (3, .int a3), (4, .int a4), (5, .int a5), (6, .int a6), (7, .long a7), (9, .int a9), (10, .int a10), (12, .int a12), (13, .int a13), (15, .int a15), (16, .int a16), (17, .int (a17 + 1)), (18, .int r5)] [])) ∧ (¬ r11 ≤ 0 → (∃ Q15 : Int32 → Mem → Prop, CtI l M_X6_pathVertex G [.ref (gA G 0), .int a12, .int a3, .int 0] m12 Q15 ∧ ∀ (r17 : Int32) (m18 : Mem), Q15 r17 m18 → ((¬ r17 = a12 → (XI l M_L_built G P m18 323 [(0, .ref (gA G 0)), (1, .int a1), (2, .int a2), (3, .int a3), (4, .int a4), (5, .int a5), (6, .int a6), (7, .long a7), (9, .int a9), (10, .int a10), (12, .int a12), (13, .int a13), (15, .int a15), (16, .int a16), (17, .int (a17 + 1)), (18, .int r5)] [])) ∧ (r17 = a12 → (XI l M_L_built G P m18 326 [(0, .ref (gA G 0)), (1, .int a1), (2, .int a2), (3, .int a3), (4, .int a4), (5, .int a5), (6, .int a6), (7, .long a7), (9, .int a9), (10, .int a10), (11, .int 1), (12, .int a12), (13, .int a13), (15, .int a15), (16, .int a16), (17, .int (a17 + 1)), (18, .int r5)] [])))))))))))))) :
    XI l M_L_built G P mem 264 [(0, .ref (gA G 0)), (1, .int a1), (2, .int a2), (3, .int a3), (4, .int a4), (5, .int a5), (6, .int a6), (7, .long a7), (9, .int a9), (10, .int a10), (11, .int a11), (12, .int a12), (13, .int a13), (15, .int a15), (16, .int a16), (17, .int a17)] [] := by
  refine x_iload (pc := 264) dL_built_264 14 rfl ?_
  refine x_iload (pc := 266) dL_built_266 11 rfl ?_
  refine x_icmp_eq (pc := 268) (tgt := 346) dL_built_268 (by decide) (fun c1 => ?_) (fun c1 => ?_)
  · have h := h.1 c1
    exact x_sub [0, 1, 2, 3, 4, 5, 6, 7, 8, 9, 10, 11, 12, 13, 15] rfl h
  · have h := h.2 c1
    refine x_iload (pc := 271) dL_built_271 10 rfl ?_
    refine x_if_eq (pc := 273) (tgt := 346) dL_built_273 (by decide) (fun c2 => ?_) (fun c2 => ?_)
    · have h := h.1 c2
      exact x_sub [0, 1, 2, 3, 4, 5, 6, 7, 8, 9, 10, 11, 12, 13, 15] rfl h
    · have h := h.2 c2
      refine x_iinc (pc := 276) (v := (a17 + 1)) dL_built_276 (k := 15) rfl rfl (by decide) rfl ?_
      refine x_aload_n (pc := 279) dL_built_279 1 rfl rfl ?_
      refine x_iload_n (pc := 280) dL_built_280 4 rfl rfl ?_
      refine x_iload (pc := 281) dL_built_281 12 rfl ?_
      refine x_iload (pc := 283) dL_built_283 0 rfl ?_
      obtain ⟨Q3, hc4, h⟩ := h
      refine x_callVI (pc := 285) 0 hc4 ok_X6_pathVertex dL_built_285 tb_361 ⟨⟨rfl, rfl⟩, ⟨by decide, by decide⟩, by decide, by decide⟩ (mK hG (by decide)) (mc_0 hG _) rfl (As := [.int a3, .int a12, .int (a17 + 1)]) rfl rfl (Nat.le_of_ble_eq_true rfl) (fun r5 m6 q7 => ?_)
      have h := h r5 m6 q7
      refine x_istore (pc := 288) dL_built_288 (by decide) rfl ?_
      refine x_iload (pc := 290) dL_built_290 0 rfl ?_
      refine x_if_lt (pc := 292) (tgt := 323) dL_built_292 (by decide) (fun c8 => ?_) (fun c8 => ?_)
      · have h := h.1 c8
        exact x_sub [2, 3, 4, 5, 6, 7, 8, 9, 10, 11, 13, 14, 15, 16, 1, 0] rfl h
      · have h := h.2 c8
        refine x_aload_n (pc := 295) dL_built_295 2 rfl rfl ?_
        refine x_iload (pc := 296) dL_built_296 16 rfl ?_
        refine x_iload (pc := 298) dL_built_298 0 rfl ?_
        obtain ⟨Q9, hc10, h⟩ := h
        refine x_callVI (pc := 300) 0 hc10 ok_X6_edgeWeight dL_built_300 tb_259 ⟨⟨rfl, rfl⟩, ⟨by decide, by decide⟩, by decide, by decide⟩ (mK hG (by decide)) (mc_0 hG _) rfl (As := [.int a16, .int r5]) rfl rfl (Nat.le_of_ble_eq_true rfl) (fun r11 m12 q13 => ?_)
        have h := h r11 m12 q13
        refine x_if_le (pc := 303) (tgt := 323) dL_built_303 (by decide) (fun c14 => ?_) (fun c14 => ?_)
        · have h := h.1 c14
          exact x_sub [2, 3, 4, 5, 6, 7, 8, 9, 10, 11, 13, 14, 15, 16, 1, 0] rfl h
        · have h := h.2 c14
          refine x_aload_n (pc := 306) dL_built_306 2 rfl rfl ?_
          refine x_iload (pc := 307) dL_built_307 13 rfl ?_
          refine x_iload_n (pc := 309) dL_built_309 5 rfl rfl ?_
          refine x_iconst (pc := 310) (v := 0) dL_built_310 (by decide) ?_
          obtain ⟨Q15, hc16, h⟩ := h
          refine x_callVI (pc := 311) 0 hc16 ok_X6_pathVertex dL_built_311 tb_361 ⟨⟨rfl, rfl⟩, ⟨by decide, by decide⟩, by decide, by decide⟩ (mK hG (by decide)) (mc_0 hG _) rfl (As := [.int a12, .int a3, .int 0]) rfl rfl (Nat.le_of_ble_eq_true rfl) (fun r17 m18 q19 => ?_)
          have h := h r17 m18 q19
          refine x_iload (pc := 314) dL_built_314 13 rfl ?_
          refine x_icmp_ne (pc := 316) (tgt := 323) dL_built_316 (by decide) (fun c20 => ?_) (fun c20 => ?_)
          · have h := h.1 c20
            exact x_sub [2, 3, 4, 5, 6, 7, 8, 9, 10, 11, 13, 14, 15, 16, 1, 0] rfl h
          · have h := h.2 c20
            refine x_iconst (pc := 319) (v := 1) dL_built_319 (by decide) ?_
            refine x_goto (pc := 320) (tgt := 324) dL_built_320 (by decide) ?_
            refine x_istore (pc := 324) dL_built_324 (by decide) rfl ?_
            exact x_sub [3, 4, 5, 6, 7, 8, 9, 10, 11, 12, 0, 13, 14, 15, 16, 2, 1] rfl h
set_option maxRecDepth 100000 in
set_option maxHeartbeats 4000000 in
theorem t_L_built_323 {l : Launch} {G : Gx} {P : Int32 → Mem → Prop} (hG : Mn G) (a1 : Int32) (a2 : Int32) (a3 : Int32) (a4 : Int32) (a5 : Int32) (a6 : Int32) (a7 : Int64) (a9 : Int32) (a10 : Int32) (a12 : Int32) (a13 : Int32) (a15 : Int32) (a16 : Int32) (a17 : Int32) (a18 : Int32) (mem : Mem)
    (h : XI l M_L_built G P mem 326 [(0, .ref (gA G 0)), (1, .int a1), (2, .int a2), (3, .int a3), (4, .int a4), (5, .int a5), (6, .int a6), (7, .long a7), (9, .int a9), (10, .int a10), (11, .int 0), (12, .int a12), (13, .int a13), (15, .int a15), (16, .int a16), (17, .int a17), (18, .int a18)] []) :
    XI l M_L_built G P mem 323 [(0, .ref (gA G 0)), (1, .int a1), (2, .int a2), (3, .int a3), (4, .int a4), (5, .int a5), (6, .int a6), (7, .long a7), (9, .int a9), (10, .int a10), (12, .int a12), (13, .int a13), (15, .int a15), (16, .int a16), (17, .int a17), (18, .int a18)] [] := by
  refine x_iconst (pc := 323) (v := 0) dL_built_323 (by decide) ?_
  refine x_istore (pc := 324) dL_built_324 (by decide) rfl ?_
  exact x_sub [1, 2, 3, 4, 5, 6, 7, 8, 9, 10, 0, 11, 12, 13, 14, 15, 16] rfl h
set_option maxRecDepth 100000 in
set_option maxHeartbeats 4000000 in
theorem t_L_built_326 {l : Launch} {G : Gx} {P : Int32 → Mem → Prop} (hG : Mn G) (a1 : Int32) (a2 : Int32) (a3 : Int32) (a4 : Int32) (a5 : Int32) (a6 : Int32) (a7 : Int64) (a9 : Int32) (a10 : Int32) (a11 : Int32) (a12 : Int32) (a13 : Int32) (a15 : Int32) (a16 : Int32) (a17 : Int32) (a18 : Int32) (mem : Mem)
    (h : ∃ Q1 : Int32 → Mem → Prop, CtI l M_X6_edgeWeight G [.ref (gA G 0), .int a16, .int a18] mem Q1 ∧ ∀ (r3 : Int32) (m4 : Mem), Q1 r3 m4 → (XI l M_L_built G P m4 264 [(0, .ref (gA G 0)), (1, .int a1), (2, .int a2), (3, .int a3), (4, .int a4), (5, .int a5), (6, .int a6), (7, .long a7), (9, .int a9), (10, .int a10), (11, .int a11), (12, .int a12), (13, .int a13), (15, .int (a15 + r3)), (16, .int a18), (17, .int a17)] [])) :
    XI l M_L_built G P mem 326 [(0, .ref (gA G 0)), (1, .int a1), (2, .int a2), (3, .int a3), (4, .int a4), (5, .int a5), (6, .int a6), (7, .long a7), (9, .int a9), (10, .int a10), (11, .int a11), (12, .int a12), (13, .int a13), (15, .int a15), (16, .int a16), (17, .int a17), (18, .int a18)] [] := by
  refine x_iload (pc := 326) dL_built_326 13 rfl ?_
  refine x_aload_n (pc := 328) dL_built_328 0 rfl rfl ?_
  refine x_iload (pc := 329) dL_built_329 14 rfl ?_
  refine x_iload (pc := 331) dL_built_331 16 rfl ?_
  obtain ⟨Q1, hc2, h⟩ := h
  refine x_callVI (pc := 333) 0 hc2 ok_X6_edgeWeight dL_built_333 tb_259 ⟨⟨rfl, rfl⟩, ⟨by decide, by decide⟩, by decide, by decide⟩ (mK hG (by decide)) (mc_0 hG _) rfl (As := [.int a16, .int a18]) rfl rfl (Nat.le_of_ble_eq_true rfl) (fun r3 m4 q5 => ?_)
  have h := h r3 m4 q5
  refine x_iadd (pc := 336) dL_built_336 ?_
  refine x_istore (pc := 337) dL_built_337 (by decide) rfl ?_
  refine x_iload (pc := 339) dL_built_339 16 rfl ?_
  refine x_istore (pc := 341) dL_built_341 (by decide) rfl ?_
  refine x_goto (pc := 343) (tgt := 264) dL_built_343 (by decide) ?_
  exact x_sub [2, 3, 4, 5, 6, 7, 8, 9, 10, 11, 12, 13, 14, 1, 0, 15] rfl h
set_option maxRecDepth 100000 in
set_option maxHeartbeats 4000000 in
theorem t_L_built_346 {l : Launch} {G : Gx} {P : Int32 → Mem → Prop} (hG : Mn G) (a1 : Int32) (a2 : Int32) (a3 : Int32) (a4 : Int32) (a5 : Int32) (a6 : Int32) (a7 : Int64) (a9 : Int32) (a10 : Int32) (a11 : Int32) (a12 : Int32) (a13 : Int32) (a15 : Int32) (a17 : Int32) (mem : Mem)
    (h : ∃ Q1 : Int32 → Mem → Prop, CtI l M_X6_vertexWeight G [.ref (gA G 0), .int a12] mem Q1 ∧ ∀ (r3 : Int32) (m4 : Mem), Q1 r3 m4 → (XI l M_L_built G P m4 358 [(0, .ref (gA G 0)), (1, .int a1), (2, .int a2), (3, .int a3), (4, .int a4), (5, .int a5), (6, .int a6), (7, .long a7), (9, .int a9), (10, .int a10), (11, .int a11), (12, .int a12), (13, .int a13), (15, .int a15), (17, .int a17), (18, .long ((r3 : Int32).toInt64)), (20, .int 0)] [])) :
    XI l M_L_built G P mem 346 [(0, .ref (gA G 0)), (1, .int a1), (2, .int a2), (3, .int a3), (4, .int a4), (5, .int a5), (6, .int a6), (7, .long a7), (9, .int a9), (10, .int a10), (11, .int a11), (12, .int a12), (13, .int a13), (15, .int a15), (17, .int a17)] [] := by
  refine x_aload_n (pc := 346) dL_built_346 0 rfl rfl ?_
  refine x_iload (pc := 347) dL_built_347 11 rfl ?_
  obtain ⟨Q1, hc2, h⟩ := h
  refine x_callVI (pc := 349) 0 hc2 ok_X6_vertexWeight dL_built_349 tb_234 ⟨⟨rfl, rfl⟩, ⟨by decide, by decide⟩, by decide, by decide⟩ (mK hG (by decide)) (mc_0 hG _) rfl (As := [.int a12]) rfl rfl (Nat.le_of_ble_eq_true rfl) (fun r3 m4 q5 => ?_)
  have h := h r3 m4 q5
  refine x_i2l (pc := 352) dL_built_352 ?_
  refine x_lstore (pc := 353) dL_built_353 (by decide) rfl ?_
  refine x_iconst (pc := 355) (v := 0) dL_built_355 (by decide) ?_
  refine x_istore (pc := 356) dL_built_356 (by decide) rfl ?_
  exact x_sub [2, 3, 4, 5, 6, 7, 8, 9, 10, 11, 12, 13, 14, 15, 16, 1, 0] rfl h
set_option maxRecDepth 100000 in
set_option maxHeartbeats 4000000 in
theorem t_L_built_358 {l : Launch} {G : Gx} {P : Int32 → Mem → Prop} (hG : Mn G) (a1 : Int32) (a2 : Int32) (a3 : Int32) (a4 : Int32) (a5 : Int32) (a6 : Int32) (a7 : Int64) (a9 : Int32) (a10 : Int32) (a11 : Int32) (a12 : Int32) (a13 : Int32) (a15 : Int32) (a17 : Int32) (a18 : Int64) (a20 : Int32) (mem : Mem)
    (h : (11 ≤ a20 → ((a11 = 0 → (XI l M_L_built G P mem 548 [(0, .ref (gA G 0)), (1, .int a1), (2, .int a2), (3, .int a3), (4, .int a4), (5, .int a5), (6, .int a6), (7, .long (a7 + a18)), (9, .int a9), (10, .int a10), (12, .int a12), (13, .int a13)] [])) ∧ (¬ a11 = 0 → ((¬ a15 = a13 → (XI l M_L_built G P mem 548 [(0, .ref (gA G 0)), (1, .int a1), (2, .int a2), (3, .int a3), (4, .int a4), (5, .int a5), (6, .int a6), (7, .long (a7 + a18)), (9, .int a9), (10, .int a10), (12, .int a12), (13, .int a13)] [])) ∧ (a15 = a13 → (∃ Q4 : Int32 → Mem → Prop, CtI l M_X6_pathVertex G [.ref (gA G 0), .int a3, .int a12, .int (a17 + 1)] mem Q4 ∧ ∀ (r6 : Int32) (m7 : Mem), Q4 r6 m7 → ((¬ r6 = (-9) → (XI l M_L_built G P m7 548 [(0, .ref (gA G 0)), (1, .int a1), (2, .int a2), (3, .int a3), (4, .int a4), (5, .int a5), (6, .int a6), (7, .long (a7 + a18)), (9, .int a9), (10, .int a10), (12, .int a12), (13, .int a13)] [])) ∧ (r6 = (-9) → (∃ Q10 : Int32 → Mem → Prop, CtI l M_X6_diameter G [.ref (gA G 0), .int a12] m7 Q10 ∧ ∀ (r12 : Int32) (m13 : Mem), Q10 r12 m13 → (∃ Q15 : Int32 → Mem → Prop, CtI l M_X6_diameter G [.ref (gA G 0), .int a3] m13 Q15 ∧ ∀ (r17 : Int32) (m18 : Mem), Q15 r17 m18 → ((¬ r12 = r17 → (XI l M_L_built G P m18 548 [(0, .ref (gA G 0)), (1, .int a1), (2, .int a2), (3, .int a3), (4, .int a4), (5, .int a5), (6, .int a6), (7, .long (a7 + a18)), (9, .int a9), (10, .int a10), (12, .int a12), (13, .int a13)] [])) ∧ (r12 = r17 → (∃ Q21 : Int32 → Mem → Prop, CtI l M_X6_centre G [.ref (gA G 0), .int a12] m18 Q21 ∧ ∀ (r23 : Int32) (m24 : Mem), Q21 r23 m24 → (∃ Q26 : Int32 → Mem → Prop, CtI l M_X6_centre G [.ref (gA G 0), .int a3] m24 Q26 ∧ ∀ (r28 : Int32) (m29 : Mem), Q26 r28 m29 → ((¬ r23 = r28 → (XI l M_L_built G P m29 548 [(0, .ref (gA G 0)), (1, .int a1), (2, .int a2), (3, .int a3), (4, .int a4), (5, .int a5), (6, .int a6), (7, .long (a7 + a18)), (9, .int a9), (10, .int a10), (12, .int a12), (13, .int a13)] [])) ∧ (r23 = r28 → (∃ Q32 : Int32 → Mem → Prop, CtI l M_X6_median G [.ref (gA G 0), .int a12] m29 Q32 ∧ ∀ (r34 : Int32) (m35 : Mem), Q32 r34 m35 → (∃ Q37 : Int32 → Mem → Prop, CtI l M_X6_median G [.ref (gA G 0), .int a3] m35 Q37 ∧ ∀ (r39 : Int32) (m40 : Mem), Q37 r39 m40 → ((¬ r34 = r39 → (XI l M_L_built G P m40 548 [(0, .ref (gA G 0)), (1, .int a1), (2, .int a2), (3, .int a3), (4, .int a4), (5, .int a5), (6, .int a6), (7, .long (a7 + a18)), (9, .int a9), (10, .int a10), (12, .int a12), (13, .int a13)] [])) ∧ (r34 = r39 → (XI l M_L_built G P m40 469 [(0, .ref (gA G 0)), (1, .int a1), (2, .int a2), (3, .int a3), (4, .int a4), (5, .int a5), (6, .int a6), (7, .long (a7 + a18)), (9, .int a9), (10, .int a10), (12, .int a12), (13, .int a13)] []))))))))))))))))))))) ∧ (¬ 11 ≤ a20 → ((a17 ≤ a20 → (XI l M_L_built G P mem 386 [(0, .ref (gA G 0)), (1, .int a1), (2, .int a2), (3, .int a3), (4, .int a4), (5, .int a5), (6, .int a6), (7, .long a7), (9, .int a9), (10, .int a10), (11, .int a11), (12, .int a12), (13, .int a13), (15, .int a15), (17, .int a17), (18, .long (a18 * 10)), (20, .int a20)] [])) ∧ (¬ a17 ≤ a20 → (XI l M_L_built G P mem 386 [(0, .ref (gA G 0)), (1, .int a1), (2, .int a2), (3, .int a3), (4, .int a4), (5, .int a5), (6, .int a6), (7, .long a7), (9, .int a9), (10, .int a10), (11, .int a11), (12, .int a12), (13, .int a13), (15, .int a15), (17, .int a17), (18, .long (a18 * 7)), (20, .int a20)] []))))) :
    XI l M_L_built G P mem 358 [(0, .ref (gA G 0)), (1, .int a1), (2, .int a2), (3, .int a3), (4, .int a4), (5, .int a5), (6, .int a6), (7, .long a7), (9, .int a9), (10, .int a10), (11, .int a11), (12, .int a12), (13, .int a13), (15, .int a15), (17, .int a17), (18, .long a18), (20, .int a20)] [] := by
  refine x_iload (pc := 358) dL_built_358 16 rfl ?_
  refine x_bipush (pc := 360) (v := 11) dL_built_360 (by decide) ?_
  refine x_icmp_ge (pc := 362) (tgt := 392) dL_built_362 (by decide) (fun c1 => ?_) (fun c1 => ?_)
  · have h := h.1 c1
    refine x_lload (pc := 392) dL_built_392 7 rfl ?_
    refine x_lload (pc := 394) dL_built_394 15 rfl ?_
    refine x_ladd (pc := 396) dL_built_396 ?_
    refine x_lstore (pc := 397) dL_built_397 (by decide) rfl ?_
    refine x_iload (pc := 399) dL_built_399 10 rfl ?_
    refine x_if_eq (pc := 401) (tgt := 548) dL_built_401 (by decide) (fun c2 => ?_) (fun c2 => ?_)
    · have h := h.1 c2
      exact x_sub [1, 2, 3, 4, 5, 6, 7, 0, 8, 9, 11, 12] rfl h
    · have h := h.2 c2
      refine x_iload (pc := 404) dL_built_404 13 rfl ?_
      refine x_iload (pc := 406) dL_built_406 12 rfl ?_
      refine x_icmp_ne (pc := 408) (tgt := 548) dL_built_408 (by decide) (fun c3 => ?_) (fun c3 => ?_)
      · have h := h.1 c3
        exact x_sub [1, 2, 3, 4, 5, 6, 7, 0, 8, 9, 11, 12] rfl h
      · have h := h.2 c3
        refine x_aload_n (pc := 411) dL_built_411 1 rfl rfl ?_
        refine x_iload_n (pc := 412) dL_built_412 4 rfl rfl ?_
        refine x_iload (pc := 413) dL_built_413 11 rfl ?_
        refine x_iload (pc := 415) dL_built_415 14 rfl ?_
        refine x_iconst (pc := 417) (v := 1) dL_built_417 (by decide) ?_
        refine x_iadd (pc := 418) dL_built_418 ?_
        obtain ⟨Q4, hc5, h⟩ := h
        refine x_callVI (pc := 419) 0 hc5 ok_X6_pathVertex dL_built_419 tb_361 ⟨⟨rfl, rfl⟩, ⟨by decide, by decide⟩, by decide, by decide⟩ (mK hG (by decide)) (mc_0 hG _) rfl (As := [.int a3, .int a12, .int (a17 + 1)]) rfl rfl (Nat.le_of_ble_eq_true rfl) (fun r6 m7 q8 => ?_)
        have h := h r6 m7 q8
        refine x_bipush (pc := 422) (v := (-9)) dL_built_422 (by decide) ?_
        refine x_icmp_ne (pc := 424) (tgt := 548) dL_built_424 (by decide) (fun c9 => ?_) (fun c9 => ?_)
        · have h := h.1 c9
          exact x_sub [1, 2, 3, 4, 5, 6, 7, 0, 8, 9, 11, 12] rfl h
        · have h := h.2 c9
          refine x_aload_n (pc := 427) dL_built_427 1 rfl rfl ?_
          refine x_iload (pc := 428) dL_built_428 11 rfl ?_
          obtain ⟨Q10, hc11, h⟩ := h
          refine x_callVI (pc := 430) 0 hc11 ok_X6_diameter dL_built_430 tb_386 ⟨⟨rfl, rfl⟩, ⟨by decide, by decide⟩, by decide, by decide⟩ (mK hG (by decide)) (mc_0 hG _) rfl (As := [.int a12]) rfl rfl (Nat.le_of_ble_eq_true rfl) (fun r12 m13 q14 => ?_)
          have h := h r12 m13 q14
          refine x_aload_n (pc := 433) dL_built_433 1 rfl rfl ?_
          refine x_iload_n (pc := 434) dL_built_434 4 rfl rfl ?_
          obtain ⟨Q15, hc16, h⟩ := h
          refine x_callVI (pc := 435) 0 hc16 ok_X6_diameter dL_built_435 tb_386 ⟨⟨rfl, rfl⟩, ⟨by decide, by decide⟩, by decide, by decide⟩ (mK hG (by decide)) (mc_0 hG _) rfl (As := [.int a3]) rfl rfl (Nat.le_of_ble_eq_true rfl) (fun r17 m18 q19 => ?_)
          have h := h r17 m18 q19
          refine x_icmp_ne (pc := 438) (tgt := 548) dL_built_438 (by decide) (fun c20 => ?_) (fun c20 => ?_)
          · have h := h.1 c20
            exact x_sub [1, 2, 3, 4, 5, 6, 7, 0, 8, 9, 11, 12] rfl h
          · have h := h.2 c20
            refine x_aload_n (pc := 441) dL_built_441 1 rfl rfl ?_
            refine x_iload (pc := 442) dL_built_442 11 rfl ?_
            obtain ⟨Q21, hc22, h⟩ := h
            refine x_callVI (pc := 444) 0 hc22 ok_X6_centre dL_built_444 tb_405 ⟨⟨rfl, rfl⟩, ⟨by decide, by decide⟩, by decide, by decide⟩ (mK hG (by decide)) (mc_0 hG _) rfl (As := [.int a12]) rfl rfl (Nat.le_of_ble_eq_true rfl) (fun r23 m24 q25 => ?_)
            have h := h r23 m24 q25
            refine x_aload_n (pc := 447) dL_built_447 1 rfl rfl ?_
            refine x_iload_n (pc := 448) dL_built_448 4 rfl rfl ?_
            obtain ⟨Q26, hc27, h⟩ := h
            refine x_callVI (pc := 449) 0 hc27 ok_X6_centre dL_built_449 tb_405 ⟨⟨rfl, rfl⟩, ⟨by decide, by decide⟩, by decide, by decide⟩ (mK hG (by decide)) (mc_0 hG _) rfl (As := [.int a3]) rfl rfl (Nat.le_of_ble_eq_true rfl) (fun r28 m29 q30 => ?_)
            have h := h r28 m29 q30
            refine x_icmp_ne (pc := 452) (tgt := 548) dL_built_452 (by decide) (fun c31 => ?_) (fun c31 => ?_)
            · have h := h.1 c31
              exact x_sub [1, 2, 3, 4, 5, 6, 7, 0, 8, 9, 11, 12] rfl h
            · have h := h.2 c31
              refine x_aload_n (pc := 455) dL_built_455 1 rfl rfl ?_
              refine x_iload (pc := 456) dL_built_456 11 rfl ?_
              obtain ⟨Q32, hc33, h⟩ := h
              refine x_callVI (pc := 458) 0 hc33 ok_X6_median dL_built_458 tb_414 ⟨⟨rfl, rfl⟩, ⟨by decide, by decide⟩, by decide, by decide⟩ (mK hG (by decide)) (mc_0 hG _) rfl (As := [.int a12]) rfl rfl (Nat.le_of_ble_eq_true rfl) (fun r34 m35 q36 => ?_)
              have h := h r34 m35 q36
              refine x_aload_n (pc := 461) dL_built_461 1 rfl rfl ?_
              refine x_iload_n (pc := 462) dL_built_462 4 rfl rfl ?_
              obtain ⟨Q37, hc38, h⟩ := h
              refine x_callVI (pc := 463) 0 hc38 ok_X6_median dL_built_463 tb_414 ⟨⟨rfl, rfl⟩, ⟨by decide, by decide⟩, by decide, by decide⟩ (mK hG (by decide)) (mc_0 hG _) rfl (As := [.int a3]) rfl rfl (Nat.le_of_ble_eq_true rfl) (fun r39 m40 q41 => ?_)
              have h := h r39 m40 q41
              refine x_icmp_ne (pc := 466) (tgt := 548) dL_built_466 (by decide) (fun c42 => ?_) (fun c42 => ?_)
              · have h := h.1 c42
                exact x_sub [1, 2, 3, 4, 5, 6, 7, 0, 8, 9, 11, 12] rfl h
              · have h := h.2 c42
                exact x_sub [1, 2, 3, 4, 5, 6, 7, 0, 8, 9, 11, 12] rfl h
  · have h := h.2 c1
    refine x_lload (pc := 365) dL_built_365 15 rfl ?_
    refine x_iload (pc := 367) dL_built_367 16 rfl ?_
    refine x_iload (pc := 369) dL_built_369 14 rfl ?_
    refine x_icmp_ge (pc := 371) (tgt := 380) dL_built_371 (by decide) (fun c43 => ?_) (fun c43 => ?_)
    · have h := h.1 c43
      refine x_ldc2 (pc := 380) (v := 10) dL_built_380 tb_763 ?_
      refine x_lmul (pc := 383) dL_built_383 ?_
      refine x_lstore (pc := 384) dL_built_384 (by decide) rfl ?_
      exact x_sub [1, 2, 3, 4, 5, 6, 7, 8, 9, 10, 11, 12, 13, 14, 15, 0, 16] rfl h
    · have h := h.2 c43
      refine x_ldc2 (pc := 374) (v := 7) dL_built_374 tb_762 ?_
      refine x_goto (pc := 377) (tgt := 383) dL_built_377 (by decide) ?_
      refine x_lmul (pc := 383) dL_built_383 ?_
      refine x_lstore (pc := 384) dL_built_384 (by decide) rfl ?_
      exact x_sub [1, 2, 3, 4, 5, 6, 7, 8, 9, 10, 11, 12, 13, 14, 15, 0, 16] rfl h
set_option maxRecDepth 100000 in
set_option maxHeartbeats 4000000 in
theorem t_L_built_386 {l : Launch} {G : Gx} {P : Int32 → Mem → Prop} (hG : Mn G) (a1 : Int32) (a2 : Int32) (a3 : Int32) (a4 : Int32) (a5 : Int32) (a6 : Int32) (a7 : Int64) (a9 : Int32) (a10 : Int32) (a11 : Int32) (a12 : Int32) (a13 : Int32) (a15 : Int32) (a17 : Int32) (a18 : Int64) (a20 : Int32) (mem : Mem)
    (h : XI l M_L_built G P mem 358 [(0, .ref (gA G 0)), (1, .int a1), (2, .int a2), (3, .int a3), (4, .int a4), (5, .int a5), (6, .int a6), (7, .long a7), (9, .int a9), (10, .int a10), (11, .int a11), (12, .int a12), (13, .int a13), (15, .int a15), (17, .int a17), (18, .long a18), (20, .int (a20 + 1))] []) :
    XI l M_L_built G P mem 386 [(0, .ref (gA G 0)), (1, .int a1), (2, .int a2), (3, .int a3), (4, .int a4), (5, .int a5), (6, .int a6), (7, .long a7), (9, .int a9), (10, .int a10), (11, .int a11), (12, .int a12), (13, .int a13), (15, .int a15), (17, .int a17), (18, .long a18), (20, .int a20)] [] := by
  refine x_iinc (pc := 386) (v := (a20 + 1)) dL_built_386 (k := 16) rfl rfl (by decide) rfl ?_
  refine x_goto (pc := 389) (tgt := 358) dL_built_389 (by decide) ?_
  exact x_sub [1, 2, 3, 4, 5, 6, 7, 8, 9, 10, 11, 12, 13, 14, 15, 16, 0] rfl h
set_option maxRecDepth 100000 in
set_option maxHeartbeats 4000000 in
theorem t_L_built_469 {l : Launch} {G : Gx} {P : Int32 → Mem → Prop} (hG : Mn G) (a1 : Int32) (a2 : Int32) (a3 : Int32) (a4 : Int32) (a5 : Int32) (a6 : Int32) (a7 : Int64) (a9 : Int32) (a10 : Int32) (a12 : Int32) (a13 : Int32) (mem : Mem)
    (h : ∃ Q1 : Int32 → Mem → Prop, CtI l M_X6_survivor G [.ref (gA G 0), .int a12] mem Q1 ∧ ∀ (r3 : Int32) (m4 : Mem), Q1 r3 m4 → ((¬ r3 = a4 → (XI l M_L_built G P m4 548 [(0, .ref (gA G 0)), (1, .int a1), (2, .int a2), (3, .int a3), (4, .int a4), (5, .int a5), (6, .int a6), (7, .long a7), (9, .int a9), (10, .int a10), (12, .int a12), (13, .int a13)] [])) ∧ (r3 = a4 → (∃ Q7 : Int32 → Mem → Prop, CtI l M_X6_rounds G [.ref (gA G 0), .int a12] m4 Q7 ∧ ∀ (r9 : Int32) (m10 : Mem), Q7 r9 m10 → (∃ Q12 : Int32 → Mem → Prop, CtI l M_X6_rounds G [.ref (gA G 0), .int a3] m10 Q12 ∧ ∀ (r14 : Int32) (m15 : Mem), Q12 r14 m15 → ((¬ r9 = r14 → (XI l M_L_built G P m15 548 [(0, .ref (gA G 0)), (1, .int a1), (2, .int a2), (3, .int a3), (4, .int a4), (5, .int a5), (6, .int a6), (7, .long a7), (9, .int a9), (10, .int a10), (12, .int a12), (13, .int a13)] [])) ∧ (r9 = r14 → (∃ Q18 : Int32 → Mem → Prop, CtI l M_X6_eccentricity G [.ref (gA G 0), .int a12] m15 Q18 ∧ ∀ (r20 : Int32) (m21 : Mem), Q18 r20 m21 → (∃ Q23 : Int32 → Mem → Prop, CtI l M_X6_centre G [.ref (gA G 0), .int a3] m21 Q23 ∧ ∀ (r25 : Int32) (m26 : Mem), Q23 r25 m26 → (∃ Q28 : Int32 → Mem → Prop, CtI l M_X6_eccentricity G [.ref (gA G 0), .int r25] m26 Q28 ∧ ∀ (r30 : Int32) (m31 : Mem), Q28 r30 m31 → ((r20 < r30 → (XI l M_L_built G P m31 548 [(0, .ref (gA G 0)), (1, .int a1), (2, .int a2), (3, .int a3), (4, .int a4), (5, .int a5), (6, .int a6), (7, .long a7), (9, .int a9), (10, .int a10), (12, .int a12), (13, .int a13)] [])) ∧ (¬ r20 < r30 → (XI l M_L_built G P m31 512 [(0, .ref (gA G 0)), (1, .int a1), (2, .int a2), (3, .int a3), (4, .int a4), (5, .int a5), (6, .int a6), (7, .long a7), (9, .int a9), (10, .int a10), (12, .int a12), (13, .int a13)] []))))))))))))) :
    XI l M_L_built G P mem 469 [(0, .ref (gA G 0)), (1, .int a1), (2, .int a2), (3, .int a3), (4, .int a4), (5, .int a5), (6, .int a6), (7, .long a7), (9, .int a9), (10, .int a10), (12, .int a12), (13, .int a13)] [] := by
  refine x_aload_n (pc := 469) dL_built_469 0 rfl rfl ?_
  refine x_iload (pc := 470) dL_built_470 10 rfl ?_
  obtain ⟨Q1, hc2, h⟩ := h
  refine x_callVI (pc := 472) 0 hc2 ok_X6_survivor dL_built_472 tb_515 ⟨⟨rfl, rfl⟩, ⟨by decide, by decide⟩, by decide, by decide⟩ (mK hG (by decide)) (mc_0 hG _) rfl (As := [.int a12]) rfl rfl (Nat.le_of_ble_eq_true rfl) (fun r3 m4 q5 => ?_)
  have h := h r3 m4 q5
  refine x_iload (pc := 475) dL_built_475 4 rfl ?_
  refine x_icmp_ne (pc := 477) (tgt := 548) dL_built_477 (by decide) (fun c6 => ?_) (fun c6 => ?_)
  · have h := h.1 c6
    exact x_sub [0, 1, 2, 3, 4, 5, 6, 7, 8, 9, 10, 11] rfl h
  · have h := h.2 c6
    refine x_aload_n (pc := 480) dL_built_480 0 rfl rfl ?_
    refine x_iload (pc := 481) dL_built_481 10 rfl ?_
    obtain ⟨Q7, hc8, h⟩ := h
    refine x_callVI (pc := 483) 0 hc8 ok_X6_rounds dL_built_483 tb_444 ⟨⟨rfl, rfl⟩, ⟨by decide, by decide⟩, by decide, by decide⟩ (mK hG (by decide)) (mc_0 hG _) rfl (As := [.int a12]) rfl rfl (Nat.le_of_ble_eq_true rfl) (fun r9 m10 q11 => ?_)
    have h := h r9 m10 q11
    refine x_aload_n (pc := 486) dL_built_486 0 rfl rfl ?_
    refine x_iload_n (pc := 487) dL_built_487 3 rfl rfl ?_
    obtain ⟨Q12, hc13, h⟩ := h
    refine x_callVI (pc := 488) 0 hc13 ok_X6_rounds dL_built_488 tb_444 ⟨⟨rfl, rfl⟩, ⟨by decide, by decide⟩, by decide, by decide⟩ (mK hG (by decide)) (mc_0 hG _) rfl (As := [.int a3]) rfl rfl (Nat.le_of_ble_eq_true rfl) (fun r14 m15 q16 => ?_)
    have h := h r14 m15 q16
    refine x_icmp_ne (pc := 491) (tgt := 548) dL_built_491 (by decide) (fun c17 => ?_) (fun c17 => ?_)
    · have h := h.1 c17
      exact x_sub [0, 1, 2, 3, 4, 5, 6, 7, 8, 9, 10, 11] rfl h
    · have h := h.2 c17
      refine x_aload_n (pc := 494) dL_built_494 0 rfl rfl ?_
      refine x_iload (pc := 495) dL_built_495 10 rfl ?_
      obtain ⟨Q18, hc19, h⟩ := h
      refine x_callVI (pc := 497) 0 hc19 ok_X6_eccentricity dL_built_497 tb_374 ⟨⟨rfl, rfl⟩, ⟨by decide, by decide⟩, by decide, by decide⟩ (mK hG (by decide)) (mc_0 hG _) rfl (As := [.int a12]) rfl rfl (Nat.le_of_ble_eq_true rfl) (fun r20 m21 q22 => ?_)
      have h := h r20 m21 q22
      refine x_aload_n (pc := 500) dL_built_500 0 rfl rfl ?_
      refine x_aload_n (pc := 501) dL_built_501 0 rfl rfl ?_
      refine x_iload_n (pc := 502) dL_built_502 3 rfl rfl ?_
      obtain ⟨Q23, hc24, h⟩ := h
      refine x_callVI (pc := 503) 0 hc24 ok_X6_centre dL_built_503 tb_405 ⟨⟨rfl, rfl⟩, ⟨by decide, by decide⟩, by decide, by decide⟩ (mK hG (by decide)) (mc_0 hG _) rfl (As := [.int a3]) rfl rfl (Nat.le_of_ble_eq_true rfl) (fun r25 m26 q27 => ?_)
      have h := h r25 m26 q27
      obtain ⟨Q28, hc29, h⟩ := h
      refine x_callVI (pc := 506) 0 hc29 ok_X6_eccentricity dL_built_506 tb_374 ⟨⟨rfl, rfl⟩, ⟨by decide, by decide⟩, by decide, by decide⟩ (mK hG (by decide)) (mc_0 hG _) rfl (As := [.int r25]) rfl rfl (Nat.le_of_ble_eq_true rfl) (fun r30 m31 q32 => ?_)
      have h := h r30 m31 q32
      refine x_icmp_lt (pc := 509) (tgt := 548) dL_built_509 (by decide) (fun c33 => ?_) (fun c33 => ?_)
      · have h := h.1 c33
        exact x_sub [0, 1, 2, 3, 4, 5, 6, 7, 8, 9, 10, 11] rfl h
      · have h := h.2 c33
        exact x_sub [0, 1, 2, 3, 4, 5, 6, 7, 8, 9, 10, 11] rfl h
set_option maxRecDepth 100000 in
set_option maxHeartbeats 4000000 in
theorem t_L_built_512 {l : Launch} {G : Gx} {P : Int32 → Mem → Prop} (hG : Mn G) (a1 : Int32) (a2 : Int32) (a3 : Int32) (a4 : Int32) (a5 : Int32) (a6 : Int32) (a7 : Int64) (a9 : Int32) (a10 : Int32) (a12 : Int32) (a13 : Int32) (mem : Mem)
    (h : ∃ Q1 : Int32 → Mem → Prop, CtI l M_X6_cost G [.ref (gA G 0), .int a12] mem Q1 ∧ ∀ (r3 : Int32) (m4 : Mem), Q1 r3 m4 → (∃ Q6 : Int32 → Mem → Prop, CtI l M_X6_median G [.ref (gA G 0), .int a3] m4 Q6 ∧ ∀ (r8 : Int32) (m9 : Mem), Q6 r8 m9 → (∃ Q11 : Int32 → Mem → Prop, CtI l M_X6_cost G [.ref (gA G 0), .int r8] m9 Q11 ∧ ∀ (r13 : Int32) (m14 : Mem), Q11 r13 m14 → ((r3 < r13 → (XI l M_L_built G P m14 548 [(0, .ref (gA G 0)), (1, .int a1), (2, .int a2), (3, .int a3), (4, .int a4), (5, .int a5), (6, .int a6), (7, .long a7), (9, .int a9), (10, .int a10), (12, .int a12), (13, .int a13)] [])) ∧ (¬ r3 < r13 → (∃ Q17 : Int32 → Mem → Prop, CtI l M_X6_eccentricity G [.ref (gA G 0), .int a12] m14 Q17 ∧ ∀ (r19 : Int32) (m20 : Mem), Q17 r19 m20 → (∃ Q22 : Int32 → Mem → Prop, CtI l M_X6_diameter G [.ref (gA G 0), .int a3] m20 Q22 ∧ ∀ (r24 : Int32) (m25 : Mem), Q22 r24 m25 → ((r24 < r19 → (XI l M_L_built G P m25 548 [(0, .ref (gA G 0)), (1, .int a1), (2, .int a2), (3, .int a3), (4, .int a4), (5, .int a5), (6, .int a6), (7, .long a7), (9, .int a9), (10, .int a10), (12, .int a12), (13, .int a13)] [])) ∧ (¬ r24 < r19 → (XI l M_L_built G P m25 551 [(0, .ref (gA G 0)), (1, .int a1), (2, .int a2), (3, .int a3), (4, .int a4), (5, .int a5), (6, .int a6), (7, .long a7), (9, .int a9), (10, .int a10), (11, .int 1), (12, .int a12), (13, .int a13)] [])))))))))) :
    XI l M_L_built G P mem 512 [(0, .ref (gA G 0)), (1, .int a1), (2, .int a2), (3, .int a3), (4, .int a4), (5, .int a5), (6, .int a6), (7, .long a7), (9, .int a9), (10, .int a10), (12, .int a12), (13, .int a13)] [] := by
  refine x_aload_n (pc := 512) dL_built_512 0 rfl rfl ?_
  refine x_iload (pc := 513) dL_built_513 10 rfl ?_
  obtain ⟨Q1, hc2, h⟩ := h
  refine x_callVI (pc := 515) 0 hc2 ok_X6_cost dL_built_515 tb_427 ⟨⟨rfl, rfl⟩, ⟨by decide, by decide⟩, by decide, by decide⟩ (mK hG (by decide)) (mc_0 hG _) rfl (As := [.int a12]) rfl rfl (Nat.le_of_ble_eq_true rfl) (fun r3 m4 q5 => ?_)
  have h := h r3 m4 q5
  refine x_aload_n (pc := 518) dL_built_518 0 rfl rfl ?_
  refine x_aload_n (pc := 519) dL_built_519 0 rfl rfl ?_
  refine x_iload_n (pc := 520) dL_built_520 3 rfl rfl ?_
  obtain ⟨Q6, hc7, h⟩ := h
  refine x_callVI (pc := 521) 0 hc7 ok_X6_median dL_built_521 tb_414 ⟨⟨rfl, rfl⟩, ⟨by decide, by decide⟩, by decide, by decide⟩ (mK hG (by decide)) (mc_0 hG _) rfl (As := [.int a3]) rfl rfl (Nat.le_of_ble_eq_true rfl) (fun r8 m9 q10 => ?_)
  have h := h r8 m9 q10
  obtain ⟨Q11, hc12, h⟩ := h
  refine x_callVI (pc := 524) 0 hc12 ok_X6_cost dL_built_524 tb_427 ⟨⟨rfl, rfl⟩, ⟨by decide, by decide⟩, by decide, by decide⟩ (mK hG (by decide)) (mc_0 hG _) rfl (As := [.int r8]) rfl rfl (Nat.le_of_ble_eq_true rfl) (fun r13 m14 q15 => ?_)
  have h := h r13 m14 q15
  refine x_icmp_lt (pc := 527) (tgt := 548) dL_built_527 (by decide) (fun c16 => ?_) (fun c16 => ?_)
  · have h := h.1 c16
    exact x_sub [0, 1, 2, 3, 4, 5, 6, 7, 8, 9, 10, 11] rfl h
  · have h := h.2 c16
    refine x_aload_n (pc := 530) dL_built_530 0 rfl rfl ?_
    refine x_iload (pc := 531) dL_built_531 10 rfl ?_
    obtain ⟨Q17, hc18, h⟩ := h
    refine x_callVI (pc := 533) 0 hc18 ok_X6_eccentricity dL_built_533 tb_374 ⟨⟨rfl, rfl⟩, ⟨by decide, by decide⟩, by decide, by decide⟩ (mK hG (by decide)) (mc_0 hG _) rfl (As := [.int a12]) rfl rfl (Nat.le_of_ble_eq_true rfl) (fun r19 m20 q21 => ?_)
    have h := h r19 m20 q21
    refine x_aload_n (pc := 536) dL_built_536 0 rfl rfl ?_
    refine x_iload_n (pc := 537) dL_built_537 3 rfl rfl ?_
    obtain ⟨Q22, hc23, h⟩ := h
    refine x_callVI (pc := 538) 0 hc23 ok_X6_diameter dL_built_538 tb_386 ⟨⟨rfl, rfl⟩, ⟨by decide, by decide⟩, by decide, by decide⟩ (mK hG (by decide)) (mc_0 hG _) rfl (As := [.int a3]) rfl rfl (Nat.le_of_ble_eq_true rfl) (fun r24 m25 q26 => ?_)
    have h := h r24 m25 q26
    refine x_icmp_gt (pc := 541) (tgt := 548) dL_built_541 (by decide) (fun c27 => ?_) (fun c27 => ?_)
    · have h := h.1 c27
      exact x_sub [0, 1, 2, 3, 4, 5, 6, 7, 8, 9, 10, 11] rfl h
    · have h := h.2 c27
      refine x_iconst (pc := 544) (v := 1) dL_built_544 (by decide) ?_
      refine x_goto (pc := 545) (tgt := 549) dL_built_545 (by decide) ?_
      refine x_istore (pc := 549) dL_built_549 (by decide) rfl ?_
      exact x_sub [1, 2, 3, 4, 5, 6, 7, 8, 9, 10, 0, 11, 12] rfl h
set_option maxRecDepth 100000 in
set_option maxHeartbeats 4000000 in
theorem t_L_built_548 {l : Launch} {G : Gx} {P : Int32 → Mem → Prop} (hG : Mn G) (a1 : Int32) (a2 : Int32) (a3 : Int32) (a4 : Int32) (a5 : Int32) (a6 : Int32) (a7 : Int64) (a9 : Int32) (a10 : Int32) (a12 : Int32) (a13 : Int32) (mem : Mem)
    (h : XI l M_L_built G P mem 551 [(0, .ref (gA G 0)), (1, .int a1), (2, .int a2), (3, .int a3), (4, .int a4), (5, .int a5), (6, .int a6), (7, .long a7), (9, .int a9), (10, .int a10), (11, .int 0), (12, .int a12), (13, .int a13)] []) :
    XI l M_L_built G P mem 548 [(0, .ref (gA G 0)), (1, .int a1), (2, .int a2), (3, .int a3), (4, .int a4), (5, .int a5), (6, .int a6), (7, .long a7), (9, .int a9), (10, .int a10), (12, .int a12), (13, .int a13)] [] := by
  refine x_iconst (pc := 548) (v := 0) dL_built_548 (by decide) ?_
  refine x_istore (pc := 549) dL_built_549 (by decide) rfl ?_
  exact x_sub [1, 2, 3, 4, 5, 6, 7, 8, 9, 10, 0, 11, 12] rfl h
set_option maxRecDepth 100000 in
set_option maxHeartbeats 4000000 in
theorem t_L_built_551 {l : Launch} {G : Gx} {P : Int32 → Mem → Prop} (hG : Mn G) (a1 : Int32) (a2 : Int32) (a3 : Int32) (a4 : Int32) (a5 : Int32) (a6 : Int32) (a7 : Int64) (a9 : Int32) (a10 : Int32) (a11 : Int32) (a12 : Int32) (a13 : Int32) (mem : Mem)
    (h : ∃ Q1 : Int32 → Mem → Prop, CtI l M_X6_removalRound G [.ref (gA G 0), .int a12] mem Q1 ∧ ∀ (r3 : Int32) (m4 : Mem), Q1 r3 m4 → ((a11 = 0 → (XI l M_L_built G P m4 605 [(0, .ref (gA G 0)), (1, .int a1), (2, .int a2), (3, .int a3), (4, .int a4), (5, .int a5), (6, .int a6), (7, .long a7), (9, .int a9), (10, .int a10), (12, .int a12), (13, .int a13), (20, .int r3)] [])) ∧ (¬ a11 = 0 → ((¬ r3 = (-9) → ((¬ a12 = a4 → ((¬ (0 : Int32) = 0 → (XI l M_L_built G P m4 605 [(0, .ref (gA G 0)), (1, .int a1), (2, .int a2), (3, .int a3), (4, .int a4), (5, .int a5), (6, .int a6), (7, .long a7), (9, .int a9), (10, .int a10), (12, .int a12), (13, .int a13), (20, .int r3)] [])) ∧ ((0 : Int32) = 0 → (∃ Q10 : Int32 → Mem → Prop, CtI l M_X6_rounds G [.ref (gA G 0), .int a3] m4 Q10 ∧ ∀ (r12 : Int32) (m13 : Mem), Q10 r12 m13 → ((r12 < r3 → (XI l M_L_built G P m13 605 [(0, .ref (gA G 0)), (1, .int a1), (2, .int a2), (3, .int a3), (4, .int a4), (5, .int a5), (6, .int a6), (7, .long a7), (9, .int a9), (10, .int a10), (12, .int a12), (13, .int a13), (20, .int r3)] [])) ∧ (¬ r12 < r3 → (XI l M_L_built G P m13 608 [(0, .ref (gA G 0)), (1, .int a1), (2, .int a2), (3, .int a3), (4, .int a4), (5, .int a5), (6, .int a6), (7, .long a7), (9, .int a9), (10, .int a10), (11, .int 1), (12, .int a12), (13, .int a13), (20, .int r3)] []))))))) ∧ (a12 = a4 → ((¬ (0 : Int32) = 1 → (XI l M_L_built G P m4 605 [(0, .ref (gA G 0)), (1, .int a1), (2, .int a2), (3, .int a3), (4, .int a4), (5, .int a5), (6, .int a6), (7, .long a7), (9, .int a9), (10, .int a10), (12, .int a12), (13, .int a13), (20, .int r3)] [])) ∧ ((0 : Int32) = 1 → (∃ Q17 : Int32 → Mem → Prop, CtI l M_X6_rounds G [.ref (gA G 0), .int a3] m4 Q17 ∧ ∀ (r19 : Int32) (m20 : Mem), Q17 r19 m20 → ((r19 < r3 → (XI l M_L_built G P m20 605 [(0, .ref (gA G 0)), (1, .int a1), (2, .int a2), (3, .int a3), (4, .int a4), (5, .int a5), (6, .int a6), (7, .long a7), (9, .int a9), (10, .int a10), (12, .int a12), (13, .int a13), (20, .int r3)] [])) ∧ (¬ r19 < r3 → (XI l M_L_built G P m20 608 [(0, .ref (gA G 0)), (1, .int a1), (2, .int a2), (3, .int a3), (4, .int a4), (5, .int a5), (6, .int a6), (7, .long a7), (9, .int a9), (10, .int a10), (11, .int 1), (12, .int a12), (13, .int a13), (20, .int r3)] []))))))))) ∧ (r3 = (-9) → ((¬ a12 = a4 → ((¬ (1 : Int32) = 0 → (XI l M_L_built G P m4 605 [(0, .ref (gA G 0)), (1, .int a1), (2, .int a2), (3, .int a3), (4, .int a4), (5, .int a5), (6, .int a6), (7, .long a7), (9, .int a9), (10, .int a10), (12, .int a12), (13, .int a13), (20, .int r3)] [])) ∧ ((1 : Int32) = 0 → (∃ Q25 : Int32 → Mem → Prop, CtI l M_X6_rounds G [.ref (gA G 0), .int a3] m4 Q25 ∧ ∀ (r27 : Int32) (m28 : Mem), Q25 r27 m28 → ((r27 < r3 → (XI l M_L_built G P m28 605 [(0, .ref (gA G 0)), (1, .int a1), (2, .int a2), (3, .int a3), (4, .int a4), (5, .int a5), (6, .int a6), (7, .long a7), (9, .int a9), (10, .int a10), (12, .int a12), (13, .int a13), (20, .int r3)] [])) ∧ (¬ r27 < r3 → (XI l M_L_built G P m28 608 [(0, .ref (gA G 0)), (1, .int a1), (2, .int a2), (3, .int a3), (4, .int a4), (5, .int a5), (6, .int a6), (7, .long a7), (9, .int a9), (10, .int a10), (11, .int 1), (12, .int a12), (13, .int a13), (20, .int r3)] []))))))) ∧ (a12 = a4 → ((¬ (1 : Int32) = 1 → (XI l M_L_built G P m4 605 [(0, .ref (gA G 0)), (1, .int a1), (2, .int a2), (3, .int a3), (4, .int a4), (5, .int a5), (6, .int a6), (7, .long a7), (9, .int a9), (10, .int a10), (12, .int a12), (13, .int a13), (20, .int r3)] [])) ∧ ((1 : Int32) = 1 → (∃ Q32 : Int32 → Mem → Prop, CtI l M_X6_rounds G [.ref (gA G 0), .int a3] m4 Q32 ∧ ∀ (r34 : Int32) (m35 : Mem), Q32 r34 m35 → ((r34 < r3 → (XI l M_L_built G P m35 605 [(0, .ref (gA G 0)), (1, .int a1), (2, .int a2), (3, .int a3), (4, .int a4), (5, .int a5), (6, .int a6), (7, .long a7), (9, .int a9), (10, .int a10), (12, .int a12), (13, .int a13), (20, .int r3)] [])) ∧ (¬ r34 < r3 → (XI l M_L_built G P m35 608 [(0, .ref (gA G 0)), (1, .int a1), (2, .int a2), (3, .int a3), (4, .int a4), (5, .int a5), (6, .int a6), (7, .long a7), (9, .int a9), (10, .int a10), (11, .int 1), (12, .int a12), (13, .int a13), (20, .int r3)] []))))))))))))) :
    XI l M_L_built G P mem 551 [(0, .ref (gA G 0)), (1, .int a1), (2, .int a2), (3, .int a3), (4, .int a4), (5, .int a5), (6, .int a6), (7, .long a7), (9, .int a9), (10, .int a10), (11, .int a11), (12, .int a12), (13, .int a13)] [] := by
  refine x_aload_n (pc := 551) dL_built_551 0 rfl rfl ?_
  refine x_iload (pc := 552) dL_built_552 11 rfl ?_
  obtain ⟨Q1, hc2, h⟩ := h
  refine x_callVI (pc := 554) 0 hc2 ok_X6_removalRound dL_built_554 tb_507 ⟨⟨rfl, rfl⟩, ⟨by decide, by decide⟩, by decide, by decide⟩ (mK hG (by decide)) (mc_0 hG _) rfl (As := [.int a12]) rfl rfl (Nat.le_of_ble_eq_true rfl) (fun r3 m4 q5 => ?_)
  have h := h r3 m4 q5
  refine x_istore (pc := 557) dL_built_557 (by decide) rfl ?_
  refine x_iload (pc := 559) dL_built_559 11 rfl ?_
  refine x_if_eq (pc := 561) (tgt := 605) dL_built_561 (by decide) (fun c6 => ?_) (fun c6 => ?_)
  · have h := h.1 c6
    exact x_sub [1, 2, 3, 4, 5, 6, 7, 8, 9, 10, 12, 13, 0] rfl h
  · have h := h.2 c6
    refine x_iload (pc := 564) dL_built_564 0 rfl ?_
    refine x_bipush (pc := 566) (v := (-9)) dL_built_566 (by decide) ?_
    refine x_icmp_ne (pc := 568) (tgt := 575) dL_built_568 (by decide) (fun c7 => ?_) (fun c7 => ?_)
    · have h := h.1 c7
      refine x_iconst (pc := 575) (v := 0) dL_built_575 (by decide) ?_
      refine x_iload (pc := 576) dL_built_576 12 rfl ?_
      refine x_iload (pc := 578) dL_built_578 5 rfl ?_
      refine x_icmp_ne (pc := 580) (tgt := 587) dL_built_580 (by decide) (fun c8 => ?_) (fun c8 => ?_)
      · have h := h.1 c8
        refine x_iconst (pc := 587) (v := 0) dL_built_587 (by decide) ?_
        refine x_icmp_ne (pc := 588) (tgt := 605) dL_built_588 (by decide) (fun c9 => ?_) (fun c9 => ?_)
        · have h := h.1 c9
          exact x_sub [1, 2, 3, 4, 5, 6, 7, 8, 9, 10, 12, 13, 0] rfl h
        · have h := h.2 c9
          refine x_iload (pc := 591) dL_built_591 0 rfl ?_
          refine x_aload_n (pc := 593) dL_built_593 1 rfl rfl ?_
          refine x_iload_n (pc := 594) dL_built_594 4 rfl rfl ?_
          obtain ⟨Q10, hc11, h⟩ := h
          refine x_callVI (pc := 595) 0 hc11 ok_X6_rounds dL_built_595 tb_444 ⟨⟨rfl, rfl⟩, ⟨by decide, by decide⟩, by decide, by decide⟩ (mK hG (by decide)) (mc_0 hG _) rfl (As := [.int a3]) rfl rfl (Nat.le_of_ble_eq_true rfl) (fun r12 m13 q14 => ?_)
          have h := h r12 m13 q14
          refine x_icmp_gt (pc := 598) (tgt := 605) dL_built_598 (by decide) (fun c15 => ?_) (fun c15 => ?_)
          · have h := h.1 c15
            exact x_sub [1, 2, 3, 4, 5, 6, 7, 8, 9, 10, 12, 13, 0] rfl h
          · have h := h.2 c15
            refine x_iconst (pc := 601) (v := 1) dL_built_601 (by decide) ?_
            refine x_goto (pc := 602) (tgt := 606) dL_built_602 (by decide) ?_
            refine x_istore (pc := 606) dL_built_606 (by decide) rfl ?_
            exact x_sub [2, 3, 4, 5, 6, 7, 8, 9, 10, 11, 0, 12, 13, 1] rfl h
      · have h := h.2 c8
        refine x_iconst (pc := 583) (v := 1) dL_built_583 (by decide) ?_
        refine x_goto (pc := 584) (tgt := 588) dL_built_584 (by decide) ?_
        refine x_icmp_ne (pc := 588) (tgt := 605) dL_built_588 (by decide) (fun c16 => ?_) (fun c16 => ?_)
        · have h := h.1 c16
          exact x_sub [1, 2, 3, 4, 5, 6, 7, 8, 9, 10, 12, 13, 0] rfl h
        · have h := h.2 c16
          refine x_iload (pc := 591) dL_built_591 0 rfl ?_
          refine x_aload_n (pc := 593) dL_built_593 1 rfl rfl ?_
          refine x_iload_n (pc := 594) dL_built_594 4 rfl rfl ?_
          obtain ⟨Q17, hc18, h⟩ := h
          refine x_callVI (pc := 595) 0 hc18 ok_X6_rounds dL_built_595 tb_444 ⟨⟨rfl, rfl⟩, ⟨by decide, by decide⟩, by decide, by decide⟩ (mK hG (by decide)) (mc_0 hG _) rfl (As := [.int a3]) rfl rfl (Nat.le_of_ble_eq_true rfl) (fun r19 m20 q21 => ?_)
          have h := h r19 m20 q21
          refine x_icmp_gt (pc := 598) (tgt := 605) dL_built_598 (by decide) (fun c22 => ?_) (fun c22 => ?_)
          · have h := h.1 c22
            exact x_sub [1, 2, 3, 4, 5, 6, 7, 8, 9, 10, 12, 13, 0] rfl h
          · have h := h.2 c22
            refine x_iconst (pc := 601) (v := 1) dL_built_601 (by decide) ?_
            refine x_goto (pc := 602) (tgt := 606) dL_built_602 (by decide) ?_
            refine x_istore (pc := 606) dL_built_606 (by decide) rfl ?_
            exact x_sub [2, 3, 4, 5, 6, 7, 8, 9, 10, 11, 0, 12, 13, 1] rfl h
    · have h := h.2 c7
      refine x_iconst (pc := 571) (v := 1) dL_built_571 (by decide) ?_
      refine x_goto (pc := 572) (tgt := 576) dL_built_572 (by decide) ?_
      refine x_iload (pc := 576) dL_built_576 12 rfl ?_
      refine x_iload (pc := 578) dL_built_578 5 rfl ?_
      refine x_icmp_ne (pc := 580) (tgt := 587) dL_built_580 (by decide) (fun c23 => ?_) (fun c23 => ?_)
      · have h := h.1 c23
        refine x_iconst (pc := 587) (v := 0) dL_built_587 (by decide) ?_
        refine x_icmp_ne (pc := 588) (tgt := 605) dL_built_588 (by decide) (fun c24 => ?_) (fun c24 => ?_)
        · have h := h.1 c24
          exact x_sub [1, 2, 3, 4, 5, 6, 7, 8, 9, 10, 12, 13, 0] rfl h
        · have h := h.2 c24
          refine x_iload (pc := 591) dL_built_591 0 rfl ?_
          refine x_aload_n (pc := 593) dL_built_593 1 rfl rfl ?_
          refine x_iload_n (pc := 594) dL_built_594 4 rfl rfl ?_
          obtain ⟨Q25, hc26, h⟩ := h
          refine x_callVI (pc := 595) 0 hc26 ok_X6_rounds dL_built_595 tb_444 ⟨⟨rfl, rfl⟩, ⟨by decide, by decide⟩, by decide, by decide⟩ (mK hG (by decide)) (mc_0 hG _) rfl (As := [.int a3]) rfl rfl (Nat.le_of_ble_eq_true rfl) (fun r27 m28 q29 => ?_)
          have h := h r27 m28 q29
          refine x_icmp_gt (pc := 598) (tgt := 605) dL_built_598 (by decide) (fun c30 => ?_) (fun c30 => ?_)
          · have h := h.1 c30
            exact x_sub [1, 2, 3, 4, 5, 6, 7, 8, 9, 10, 12, 13, 0] rfl h
          · have h := h.2 c30
            refine x_iconst (pc := 601) (v := 1) dL_built_601 (by decide) ?_
            refine x_goto (pc := 602) (tgt := 606) dL_built_602 (by decide) ?_
            refine x_istore (pc := 606) dL_built_606 (by decide) rfl ?_
            exact x_sub [2, 3, 4, 5, 6, 7, 8, 9, 10, 11, 0, 12, 13, 1] rfl h
      · have h := h.2 c23
        refine x_iconst (pc := 583) (v := 1) dL_built_583 (by decide) ?_
        refine x_goto (pc := 584) (tgt := 588) dL_built_584 (by decide) ?_
        refine x_icmp_ne (pc := 588) (tgt := 605) dL_built_588 (by decide) (fun c31 => ?_) (fun c31 => ?_)
        · have h := h.1 c31
          exact x_sub [1, 2, 3, 4, 5, 6, 7, 8, 9, 10, 12, 13, 0] rfl h
        · have h := h.2 c31
          refine x_iload (pc := 591) dL_built_591 0 rfl ?_
          refine x_aload_n (pc := 593) dL_built_593 1 rfl rfl ?_
          refine x_iload_n (pc := 594) dL_built_594 4 rfl rfl ?_
          obtain ⟨Q32, hc33, h⟩ := h
          refine x_callVI (pc := 595) 0 hc33 ok_X6_rounds dL_built_595 tb_444 ⟨⟨rfl, rfl⟩, ⟨by decide, by decide⟩, by decide, by decide⟩ (mK hG (by decide)) (mc_0 hG _) rfl (As := [.int a3]) rfl rfl (Nat.le_of_ble_eq_true rfl) (fun r34 m35 q36 => ?_)
          have h := h r34 m35 q36
          refine x_icmp_gt (pc := 598) (tgt := 605) dL_built_598 (by decide) (fun c37 => ?_) (fun c37 => ?_)
          · have h := h.1 c37
            exact x_sub [1, 2, 3, 4, 5, 6, 7, 8, 9, 10, 12, 13, 0] rfl h
          · have h := h.2 c37
            refine x_iconst (pc := 601) (v := 1) dL_built_601 (by decide) ?_
            refine x_goto (pc := 602) (tgt := 606) dL_built_602 (by decide) ?_
            refine x_istore (pc := 606) dL_built_606 (by decide) rfl ?_
            exact x_sub [2, 3, 4, 5, 6, 7, 8, 9, 10, 11, 0, 12, 13, 1] rfl h
set_option maxRecDepth 100000 in
set_option maxHeartbeats 4000000 in
theorem t_L_built_605 {l : Launch} {G : Gx} {P : Int32 → Mem → Prop} (hG : Mn G) (a1 : Int32) (a2 : Int32) (a3 : Int32) (a4 : Int32) (a5 : Int32) (a6 : Int32) (a7 : Int64) (a9 : Int32) (a10 : Int32) (a12 : Int32) (a13 : Int32) (a20 : Int32) (mem : Mem)
    (h : XI l M_L_built G P mem 608 [(0, .ref (gA G 0)), (1, .int a1), (2, .int a2), (3, .int a3), (4, .int a4), (5, .int a5), (6, .int a6), (7, .long a7), (9, .int a9), (10, .int a10), (11, .int 0), (12, .int a12), (13, .int a13), (20, .int a20)] []) :
    XI l M_L_built G P mem 605 [(0, .ref (gA G 0)), (1, .int a1), (2, .int a2), (3, .int a3), (4, .int a4), (5, .int a5), (6, .int a6), (7, .long a7), (9, .int a9), (10, .int a10), (12, .int a12), (13, .int a13), (20, .int a20)] [] := by
  refine x_iconst (pc := 605) (v := 0) dL_built_605 (by decide) ?_
  refine x_istore (pc := 606) dL_built_606 (by decide) rfl ?_
  exact x_sub [1, 2, 3, 4, 5, 6, 7, 8, 9, 10, 0, 11, 12, 13] rfl h
set_option maxRecDepth 100000 in
set_option maxHeartbeats 4000000 in
theorem t_L_built_608 {l : Launch} {G : Gx} {P : Int32 → Mem → Prop} (hG : Mn G) (a1 : Int32) (a2 : Int32) (a3 : Int32) (a4 : Int32) (a5 : Int32) (a6 : Int32) (a7 : Int64) (a9 : Int32) (a10 : Int32) (a11 : Int32) (a12 : Int32) (a13 : Int32) (a20 : Int32) (mem : Mem)
    (h : (a20 ≤ a6 → (XI l M_L_built G P mem 624 [(0, .ref (gA G 0)), (1, .int a1), (2, .int a2), (3, .int a3), (4, .int a4), (5, .int a5), (6, .int a6), (7, .long a7), (9, .int a9), (10, .int a10), (11, .int a11), (12, .int a12), (13, .int a13), (20, .int a20)] [])) ∧ (¬ a20 ≤ a6 → (XI l M_L_built G P mem 624 [(0, .ref (gA G 0)), (1, .int a1), (2, .int a2), (3, .int a3), (4, .int a4), (5, .int a5), (6, .int a20), (7, .long a7), (9, .int a9), (10, .int a10), (11, .int a11), (12, .int a12), (13, .int a13), (20, .int a20)] []))) :
    XI l M_L_built G P mem 608 [(0, .ref (gA G 0)), (1, .int a1), (2, .int a2), (3, .int a3), (4, .int a4), (5, .int a5), (6, .int a6), (7, .long a7), (9, .int a9), (10, .int a10), (11, .int a11), (12, .int a12), (13, .int a13), (20, .int a20)] [] := by
  refine x_iload (pc := 608) dL_built_608 13 rfl ?_
  refine x_iload (pc := 610) dL_built_610 6 rfl ?_
  refine x_icmp_le (pc := 612) (tgt := 620) dL_built_612 (by decide) (fun c1 => ?_) (fun c1 => ?_)
  · have h := h.1 c1
    refine x_iload (pc := 620) dL_built_620 6 rfl ?_
    refine x_istore (pc := 622) dL_built_622 (by decide) rfl ?_
    exact x_sub [1, 2, 3, 4, 5, 6, 0, 7, 8, 9, 10, 11, 12, 13] rfl h
  · have h := h.2 c1
    refine x_iload (pc := 615) dL_built_615 13 rfl ?_
    refine x_goto (pc := 617) (tgt := 622) dL_built_617 (by decide) ?_
    refine x_istore (pc := 622) dL_built_622 (by decide) rfl ?_
    exact x_sub [1, 2, 3, 4, 5, 6, 0, 7, 8, 9, 10, 11, 12, 13] rfl h
set_option maxRecDepth 100000 in
set_option maxHeartbeats 4000000 in
theorem t_L_built_624 {l : Launch} {G : Gx} {P : Int32 → Mem → Prop} (hG : Mn G) (a1 : Int32) (a2 : Int32) (a3 : Int32) (a4 : Int32) (a5 : Int32) (a6 : Int32) (a7 : Int64) (a9 : Int32) (a10 : Int32) (a11 : Int32) (a12 : Int32) (a13 : Int32) (a20 : Int32) (mem : Mem)
    (h : (¬ a20 = (-9) → (XI l M_L_built G P mem 641 [(0, .ref (gA G 0)), (1, .int a1), (2, .int a2), (3, .int a3), (4, .int a4), (5, .int (a5 + 1)), (6, .int a6), (7, .long a7), (9, .int a9), (10, .int a10), (11, .int a11), (12, .int a12), (13, .int a13)] [])) ∧ (a20 = (-9) → (XI l M_L_built G P mem 641 [(0, .ref (gA G 0)), (1, .int a1), (2, .int a2), (3, .int a3), (4, .int a4), (5, .int (a5 + 0)), (6, .int a6), (7, .long a7), (9, .int a9), (10, .int a10), (11, .int a11), (12, .int a12), (13, .int a13)] []))) :
    XI l M_L_built G P mem 624 [(0, .ref (gA G 0)), (1, .int a1), (2, .int a2), (3, .int a3), (4, .int a4), (5, .int a5), (6, .int a6), (7, .long a7), (9, .int a9), (10, .int a10), (11, .int a11), (12, .int a12), (13, .int a13), (20, .int a20)] [] := by
  refine x_iload (pc := 624) dL_built_624 5 rfl ?_
  refine x_iload (pc := 626) dL_built_626 13 rfl ?_
  refine x_bipush (pc := 628) (v := (-9)) dL_built_628 (by decide) ?_
  refine x_icmp_ne (pc := 630) (tgt := 637) dL_built_630 (by decide) (fun c1 => ?_) (fun c1 => ?_)
  · have h := h.1 c1
    refine x_iconst (pc := 637) (v := 1) dL_built_637 (by decide) ?_
    refine x_iadd (pc := 638) dL_built_638 ?_
    refine x_istore (pc := 639) dL_built_639 (by decide) rfl ?_
    exact x_sub [1, 2, 3, 4, 5, 0, 6, 7, 8, 9, 10, 11, 12] rfl h
  · have h := h.2 c1
    refine x_iconst (pc := 633) (v := 0) dL_built_633 (by decide) ?_
    refine x_goto (pc := 634) (tgt := 638) dL_built_634 (by decide) ?_
    refine x_iadd (pc := 638) dL_built_638 ?_
    refine x_istore (pc := 639) dL_built_639 (by decide) rfl ?_
    exact x_sub [1, 2, 3, 4, 5, 0, 6, 7, 8, 9, 10, 11, 12] rfl h
set_option maxRecDepth 100000 in
set_option maxHeartbeats 4000000 in
theorem t_L_built_641 {l : Launch} {G : Gx} {P : Int32 → Mem → Prop} (hG : Mn G) (a1 : Int32) (a2 : Int32) (a3 : Int32) (a4 : Int32) (a5 : Int32) (a6 : Int32) (a7 : Int64) (a9 : Int32) (a10 : Int32) (a11 : Int32) (a12 : Int32) (a13 : Int32) (mem : Mem)
    (h : ¬ a2 = 0 ∧ (∃ Q1 : Int32 → Mem → Prop, CtI l M_X6_meeting G [.ref (gA G 0), .int a3, .int a12, .int ((a1 / 12) - (a1 / 12) / a2 * a2)] mem Q1 ∧ ∀ (r3 : Int32) (m4 : Mem), Q1 r3 m4 → ((r3 = (-9) → (XI l M_L_built G P m4 740 [(0, .ref (gA G 0)), (1, .int a1), (2, .int a2), (3, .int a3), (4, .int a4), (5, .int a5), (6, .int a6), (7, .long a7), (9, .int a9), (10, .int a10), (11, .int a11), (12, .int a12)] [])) ∧ (¬ r3 = (-9) → ((a11 = 0 → (XI l M_L_built G P m4 740 [(0, .ref (gA G 0)), (1, .int a1), (2, .int a2), (3, .int a3), (4, .int a4), (5, .int a5), (6, .int a6), (7, .long a7), (9, .int a9), (10, .int a10), (11, .int a11), (12, .int a12)] [])) ∧ (¬ a11 = 0 → (∃ Q8 : Int32 → Mem → Prop, CtI l M_X6_distance G [.ref (gA G 0), .int a3, .int r3] m4 Q8 ∧ ∀ (r10 : Int32) (m11 : Mem), Q8 r10 m11 → (∃ Q13 : Int32 → Mem → Prop, CtI l M_X6_distance G [.ref (gA G 0), .int r3, .int a12] m11 Q13 ∧ ∀ (r15 : Int32) (m16 : Mem), Q13 r15 m16 → ((¬ (r10 + r15) = a13 → (XI l M_L_built G P m16 737 [(0, .ref (gA G 0)), (1, .int a1), (2, .int a2), (3, .int a3), (4, .int a4), (5, .int a5), (6, .int a6), (7, .long a7), (9, .int a9), (10, .int a10), (12, .int a12)] [])) ∧ ((r10 + r15) = a13 → (∃ Q19 : Int32 → Mem → Prop, CtI l M_X6_distance G [.ref (gA G 0), .int a3, .int r3] m16 Q19 ∧ ∀ (r21 : Int32) (m22 : Mem), Q19 r21 m22 → (∃ Q24 : Int32 → Mem → Prop, CtI l M_X6_distance G [.ref (gA G 0), .int r3, .int ((a1 / 12) - (a1 / 12) / a2 * a2)] m22 Q24 ∧ ∀ (r26 : Int32) (m27 : Mem), Q24 r26 m27 → (∃ Q29 : Int32 → Mem → Prop, CtI l M_X6_distance G [.ref (gA G 0), .int a3, .int ((a1 / 12) - (a1 / 12) / a2 * a2)] m27 Q29 ∧ ∀ (r31 : Int32) (m32 : Mem), Q29 r31 m32 → ((¬ (r21 + r26) = r31 → (XI l M_L_built G P m32 737 [(0, .ref (gA G 0)), (1, .int a1), (2, .int a2), (3, .int a3), (4, .int a4), (5, .int a5), (6, .int a6), (7, .long a7), (9, .int a9), (10, .int a10), (12, .int a12)] [])) ∧ ((r21 + r26) = r31 → (XI l M_L_built G P m32 719 [(0, .ref (gA G 0)), (1, .int a1), (2, .int a2), (3, .int a3), (4, .int a4), (5, .int a5), (6, .int a6), (7, .long a7), (9, .int a9), (10, .int a10), (12, .int a12), (21, .int ((a1 / 12) - (a1 / 12) / a2 * a2)), (22, .int r3)] [])))))))))))))))) :
    XI l M_L_built G P mem 641 [(0, .ref (gA G 0)), (1, .int a1), (2, .int a2), (3, .int a3), (4, .int a4), (5, .int a5), (6, .int a6), (7, .long a7), (9, .int a9), (10, .int a10), (11, .int a11), (12, .int a12), (13, .int a13)] [] := by
  refine x_iload_n (pc := 641) dL_built_641 1 rfl rfl ?_
  refine x_bipush (pc := 642) (v := 12) dL_built_642 (by decide) ?_
  refine x_idiv (pc := 644) dL_built_644 (by decide) ?_
  refine x_iload_n (pc := 645) dL_built_645 2 rfl rfl ?_
  refine x_irem (pc := 646) dL_built_646 h.1 ?_
  have h := h.2
  refine x_istore (pc := 647) dL_built_647 (by decide) rfl ?_
  refine x_aload_n (pc := 649) dL_built_649 1 rfl rfl ?_
  refine x_iload_n (pc := 650) dL_built_650 4 rfl rfl ?_
  refine x_iload (pc := 651) dL_built_651 12 rfl ?_
  refine x_iload (pc := 653) dL_built_653 0 rfl ?_
  obtain ⟨Q1, hc2, h⟩ := h
  refine x_callVI (pc := 655) 0 hc2 ok_X6_meeting dL_built_655 tb_432 ⟨⟨rfl, rfl⟩, ⟨by decide, by decide⟩, by decide, by decide⟩ (mK hG (by decide)) (mc_0 hG _) rfl (As := [.int a3, .int a12, .int ((a1 / 12) - (a1 / 12) / a2 * a2)]) rfl rfl (Nat.le_of_ble_eq_true rfl) (fun r3 m4 q5 => ?_)
  have h := h r3 m4 q5
  refine x_istore (pc := 658) dL_built_658 (by decide) rfl ?_
  refine x_iload (pc := 660) dL_built_660 0 rfl ?_
  refine x_bipush (pc := 662) (v := (-9)) dL_built_662 (by decide) ?_
  refine x_icmp_eq (pc := 664) (tgt := 740) dL_built_664 (by decide) (fun c6 => ?_) (fun c6 => ?_)
  · have h := h.1 c6
    exact x_sub [2, 3, 4, 5, 6, 7, 8, 9, 10, 11, 12, 13] rfl h
  · have h := h.2 c6
    refine x_iload (pc := 667) dL_built_667 12 rfl ?_
    refine x_if_eq (pc := 669) (tgt := 740) dL_built_669 (by decide) (fun c7 => ?_) (fun c7 => ?_)
    · have h := h.1 c7
      exact x_sub [2, 3, 4, 5, 6, 7, 8, 9, 10, 11, 12, 13] rfl h
    · have h := h.2 c7
      refine x_aload_n (pc := 672) dL_built_672 2 rfl rfl ?_
      refine x_iload_n (pc := 673) dL_built_673 5 rfl rfl ?_
      refine x_iload (pc := 674) dL_built_674 0 rfl ?_
      obtain ⟨Q8, hc9, h⟩ := h
      refine x_callVI (pc := 676) 0 hc9 ok_X6_distance dL_built_676 tb_356 ⟨⟨rfl, rfl⟩, ⟨by decide, by decide⟩, by decide, by decide⟩ (mK hG (by decide)) (mc_0 hG _) rfl (As := [.int a3, .int r3]) rfl rfl (Nat.le_of_ble_eq_true rfl) (fun r10 m11 q12 => ?_)
      have h := h r10 m11 q12
      refine x_aload_n (pc := 679) dL_built_679 2 rfl rfl ?_
      refine x_iload (pc := 680) dL_built_680 0 rfl ?_
      refine x_iload (pc := 682) dL_built_682 13 rfl ?_
      obtain ⟨Q13, hc14, h⟩ := h
      refine x_callVI (pc := 684) 0 hc14 ok_X6_distance dL_built_684 tb_356 ⟨⟨rfl, rfl⟩, ⟨by decide, by decide⟩, by decide, by decide⟩ (mK hG (by decide)) (mc_0 hG _) rfl (As := [.int r3, .int a12]) rfl rfl (Nat.le_of_ble_eq_true rfl) (fun r15 m16 q17 => ?_)
      have h := h r15 m16 q17
      refine x_iadd (pc := 687) dL_built_687 ?_
      refine x_iload (pc := 688) dL_built_688 14 rfl ?_
      refine x_icmp_ne (pc := 690) (tgt := 737) dL_built_690 (by decide) (fun c18 => ?_) (fun c18 => ?_)
      · have h := h.1 c18
        exact x_sub [2, 3, 4, 5, 6, 7, 8, 9, 10, 11, 13] rfl h
      · have h := h.2 c18
        refine x_aload_n (pc := 693) dL_built_693 2 rfl rfl ?_
        refine x_iload_n (pc := 694) dL_built_694 5 rfl rfl ?_
        refine x_iload (pc := 695) dL_built_695 0 rfl ?_
        obtain ⟨Q19, hc20, h⟩ := h
        refine x_callVI (pc := 697) 0 hc20 ok_X6_distance dL_built_697 tb_356 ⟨⟨rfl, rfl⟩, ⟨by decide, by decide⟩, by decide, by decide⟩ (mK hG (by decide)) (mc_0 hG _) rfl (As := [.int a3, .int r3]) rfl rfl (Nat.le_of_ble_eq_true rfl) (fun r21 m22 q23 => ?_)
        have h := h r21 m22 q23
        refine x_aload_n (pc := 700) dL_built_700 2 rfl rfl ?_
        refine x_iload (pc := 701) dL_built_701 0 rfl ?_
        refine x_iload (pc := 703) dL_built_703 1 rfl ?_
        obtain ⟨Q24, hc25, h⟩ := h
        refine x_callVI (pc := 705) 0 hc25 ok_X6_distance dL_built_705 tb_356 ⟨⟨rfl, rfl⟩, ⟨by decide, by decide⟩, by decide, by decide⟩ (mK hG (by decide)) (mc_0 hG _) rfl (As := [.int r3, .int ((a1 / 12) - (a1 / 12) / a2 * a2)]) rfl rfl (Nat.le_of_ble_eq_true rfl) (fun r26 m27 q28 => ?_)
        have h := h r26 m27 q28
        refine x_iadd (pc := 708) dL_built_708 ?_
        refine x_aload_n (pc := 709) dL_built_709 2 rfl rfl ?_
        refine x_iload_n (pc := 710) dL_built_710 5 rfl rfl ?_
        refine x_iload (pc := 711) dL_built_711 1 rfl ?_
        obtain ⟨Q29, hc30, h⟩ := h
        refine x_callVI (pc := 713) 0 hc30 ok_X6_distance dL_built_713 tb_356 ⟨⟨rfl, rfl⟩, ⟨by decide, by decide⟩, by decide, by decide⟩ (mK hG (by decide)) (mc_0 hG _) rfl (As := [.int a3, .int ((a1 / 12) - (a1 / 12) / a2 * a2)]) rfl rfl (Nat.le_of_ble_eq_true rfl) (fun r31 m32 q33 => ?_)
        have h := h r31 m32 q33
        refine x_icmp_ne (pc := 716) (tgt := 737) dL_built_716 (by decide) (fun c34 => ?_) (fun c34 => ?_)
        · have h := h.1 c34
          exact x_sub [2, 3, 4, 5, 6, 7, 8, 9, 10, 11, 13] rfl h
        · have h := h.2 c34
          exact x_sub [2, 3, 4, 5, 6, 7, 8, 9, 10, 11, 13, 1, 0] rfl h
set_option maxRecDepth 100000 in
set_option maxHeartbeats 4000000 in
theorem t_L_built_719 {l : Launch} {G : Gx} {P : Int32 → Mem → Prop} (hG : Mn G) (a1 : Int32) (a2 : Int32) (a3 : Int32) (a4 : Int32) (a5 : Int32) (a6 : Int32) (a7 : Int64) (a9 : Int32) (a10 : Int32) (a12 : Int32) (a21 : Int32) (a22 : Int32) (mem : Mem)
    (h : ∃ Q1 : Int32 → Mem → Prop, CtI l M_X6_meeting G [.ref (gA G 0), .int a21, .int a12, .int a3] mem Q1 ∧ ∀ (r3 : Int32) (m4 : Mem), Q1 r3 m4 → ((¬ r3 = a22 → (XI l M_L_built G P m4 737 [(0, .ref (gA G 0)), (1, .int a1), (2, .int a2), (3, .int a3), (4, .int a4), (5, .int a5), (6, .int a6), (7, .long a7), (9, .int a9), (10, .int a10), (12, .int a12)] [])) ∧ (r3 = a22 → (XI l M_L_built G P m4 740 [(0, .ref (gA G 0)), (1, .int a1), (2, .int a2), (3, .int a3), (4, .int a4), (5, .int a5), (6, .int a6), (7, .long a7), (9, .int a9), (10, .int a10), (11, .int 1), (12, .int a12)] [])))) :
    XI l M_L_built G P mem 719 [(0, .ref (gA G 0)), (1, .int a1), (2, .int a2), (3, .int a3), (4, .int a4), (5, .int a5), (6, .int a6), (7, .long a7), (9, .int a9), (10, .int a10), (12, .int a12), (21, .int a21), (22, .int a22)] [] := by
  refine x_aload_n (pc := 719) dL_built_719 0 rfl rfl ?_
  refine x_iload (pc := 720) dL_built_720 11 rfl ?_
  refine x_iload (pc := 722) dL_built_722 10 rfl ?_
  refine x_iload_n (pc := 724) dL_built_724 3 rfl rfl ?_
  obtain ⟨Q1, hc2, h⟩ := h
  refine x_callVI (pc := 725) 0 hc2 ok_X6_meeting dL_built_725 tb_432 ⟨⟨rfl, rfl⟩, ⟨by decide, by decide⟩, by decide, by decide⟩ (mK hG (by decide)) (mc_0 hG _) rfl (As := [.int a21, .int a12, .int a3]) rfl rfl (Nat.le_of_ble_eq_true rfl) (fun r3 m4 q5 => ?_)
  have h := h r3 m4 q5
  refine x_iload (pc := 728) dL_built_728 12 rfl ?_
  refine x_icmp_ne (pc := 730) (tgt := 737) dL_built_730 (by decide) (fun c6 => ?_) (fun c6 => ?_)
  · have h := h.1 c6
    exact x_sub [0, 1, 2, 3, 4, 5, 6, 7, 8, 9, 10] rfl h
  · have h := h.2 c6
    refine x_iconst (pc := 733) (v := 1) dL_built_733 (by decide) ?_
    refine x_goto (pc := 734) (tgt := 738) dL_built_734 (by decide) ?_
    refine x_istore (pc := 738) dL_built_738 (by decide) rfl ?_
    exact x_sub [1, 2, 3, 4, 5, 6, 7, 8, 9, 10, 0, 11] rfl h
set_option maxRecDepth 100000 in
set_option maxHeartbeats 4000000 in
theorem t_L_built_737 {l : Launch} {G : Gx} {P : Int32 → Mem → Prop} (hG : Mn G) (a1 : Int32) (a2 : Int32) (a3 : Int32) (a4 : Int32) (a5 : Int32) (a6 : Int32) (a7 : Int64) (a9 : Int32) (a10 : Int32) (a12 : Int32) (mem : Mem)
    (h : XI l M_L_built G P mem 740 [(0, .ref (gA G 0)), (1, .int a1), (2, .int a2), (3, .int a3), (4, .int a4), (5, .int a5), (6, .int a6), (7, .long a7), (9, .int a9), (10, .int a10), (11, .int 0), (12, .int a12)] []) :
    XI l M_L_built G P mem 737 [(0, .ref (gA G 0)), (1, .int a1), (2, .int a2), (3, .int a3), (4, .int a4), (5, .int a5), (6, .int a6), (7, .long a7), (9, .int a9), (10, .int a10), (12, .int a12)] [] := by
  refine x_iconst (pc := 737) (v := 0) dL_built_737 (by decide) ?_
  refine x_istore (pc := 738) dL_built_738 (by decide) rfl ?_
  exact x_sub [1, 2, 3, 4, 5, 6, 7, 8, 9, 10, 0, 11] rfl h
set_option maxRecDepth 100000 in
set_option maxHeartbeats 4000000 in
theorem t_L_built_740 {l : Launch} {G : Gx} {P : Int32 → Mem → Prop} (hG : Mn G) (a1 : Int32) (a2 : Int32) (a3 : Int32) (a4 : Int32) (a5 : Int32) (a6 : Int32) (a7 : Int64) (a9 : Int32) (a10 : Int32) (a11 : Int32) (a12 : Int32) (mem : Mem)
    (h : XI l M_L_built G P mem 73 [(0, .ref (gA G 0)), (1, .int a1), (2, .int a2), (3, .int a3), (4, .int a4), (5, .int a5), (6, .int a6), (7, .long a7), (9, .int a9), (10, .int a10), (11, .int a11), (12, .int (a12 + 1))] []) :
    XI l M_L_built G P mem 740 [(0, .ref (gA G 0)), (1, .int a1), (2, .int a2), (3, .int a3), (4, .int a4), (5, .int a5), (6, .int a6), (7, .long a7), (9, .int a9), (10, .int a10), (11, .int a11), (12, .int a12)] [] := by
  refine x_iinc (pc := 740) (v := (a12 + 1)) dL_built_740 (k := 11) rfl rfl (by decide) rfl ?_
  refine x_goto (pc := 743) (tgt := 73) dL_built_743 (by decide) ?_
  exact x_sub [1, 2, 3, 4, 5, 6, 7, 8, 9, 10, 11, 0] rfl h
set_option maxRecDepth 100000 in
set_option maxHeartbeats 4000000 in
theorem t_L_built_746 {l : Launch} {G : Gx} {P : Int32 → Mem → Prop} (hG : Mn G) (a3 : Int32) (a4 : Int32) (a5 : Int32) (a6 : Int32) (a7 : Int64) (a9 : Int32) (a10 : Int32) (a11 : Int32) (mem : Mem)
    (h : ∃ Q1 : Int32 → Mem → Prop, CtI l M_X6_diameterEnd G [.ref (gA G 0), .int a3, .int 0] mem Q1 ∧ ∀ (r3 : Int32) (m4 : Mem), Q1 r3 m4 → (∃ Q6 : Int32 → Mem → Prop, CtI l M_X6_diameterEnd G [.ref (gA G 0), .int a3, .int 1] m4 Q6 ∧ ∀ (r8 : Int32) (m9 : Mem), Q6 r8 m9 → ((a11 = 0 → (XI l M_L_built G P m9 954 [] [])) ∧ (¬ a11 = 0 → (∃ Q12 : Int32 → Mem → Prop, CtI l M_X6_rounds G [.ref (gA G 0), .int a3] m9 Q12 ∧ ∀ (r14 : Int32) (m15 : Mem), Q12 r14 m15 → ((¬ a6 = r14 → (XI l M_L_built G P m15 954 [] [])) ∧ (a6 = r14 → (∃ Q18 : Int32 → Mem → Prop, CtI l M_X6_eccentricity G [.ref (gA G 0), .int a3] m15 Q18 ∧ ∀ (r20 : Int32) (m21 : Mem), Q18 r20 m21 → ((¬ a10 = r20 → (XI l M_L_built G P m21 954 [] [])) ∧ (a10 = r20 → (∃ Q24 : Int32 → Mem → Prop, CtI l M_X6_cost G [.ref (gA G 0), .int a3] m21 Q24 ∧ ∀ (r26 : Int32) (m27 : Mem), Q24 r26 m27 → ((¬ a9 = r26 → (XI l M_L_built G P m27 954 [] [])) ∧ (a9 = r26 → (∃ Q30 : Int64 → Mem → Prop, CtL l M_X6_expectedReach G [.ref (gA G 0), .int a3, .int 3] m27 Q30 ∧ ∀ (r32 : Int64) (m33 : Mem), Q30 r32 m33 → ((¬ (lg_cmp a7 r32) = 0 → (XI l M_L_built G P m33 954 [] [])) ∧ ((lg_cmp a7 r32) = 0 → (XI l M_L_built G P m33 809 [(0, .ref (gA G 0)), (3, .int a3), (4, .int a4), (5, .int a5), (12, .int r3), (13, .int r8)] []))))))))))))))))) :
    XI l M_L_built G P mem 746 [(0, .ref (gA G 0)), (3, .int a3), (4, .int a4), (5, .int a5), (6, .int a6), (7, .long a7), (9, .int a9), (10, .int a10), (11, .int a11)] [] := by
  refine x_aload_n (pc := 746) dL_built_746 0 rfl rfl ?_
  refine x_iload_n (pc := 747) dL_built_747 1 rfl rfl ?_
  refine x_iconst (pc := 748) (v := 0) dL_built_748 (by decide) ?_
  obtain ⟨Q1, hc2, h⟩ := h
  refine x_callVI (pc := 749) 0 hc2 ok_X6_diameterEnd dL_built_749 tb_399 ⟨⟨rfl, rfl⟩, ⟨by decide, by decide⟩, by decide, by decide⟩ (mK hG (by decide)) (mc_0 hG _) rfl (As := [.int a3, .int 0]) rfl rfl (Nat.le_of_ble_eq_true rfl) (fun r3 m4 q5 => ?_)
  have h := h r3 m4 q5
  refine x_istore (pc := 752) dL_built_752 (by decide) rfl ?_
  refine x_aload_n (pc := 754) dL_built_754 1 rfl rfl ?_
  refine x_iload_n (pc := 755) dL_built_755 2 rfl rfl ?_
  refine x_iconst (pc := 756) (v := 1) dL_built_756 (by decide) ?_
  obtain ⟨Q6, hc7, h⟩ := h
  refine x_callVI (pc := 757) 0 hc7 ok_X6_diameterEnd dL_built_757 tb_399 ⟨⟨rfl, rfl⟩, ⟨by decide, by decide⟩, by decide, by decide⟩ (mK hG (by decide)) (mc_0 hG _) rfl (As := [.int a3, .int 1]) rfl rfl (Nat.le_of_ble_eq_true rfl) (fun r8 m9 q10 => ?_)
  have h := h r8 m9 q10
  refine x_istore (pc := 760) dL_built_760 (by decide) rfl ?_
  refine x_iload (pc := 762) dL_built_762 10 rfl ?_
  refine x_if_eq (pc := 764) (tgt := 954) dL_built_764 (by decide) (fun c11 => ?_) (fun c11 => ?_)
  · have h := h.1 c11
    exact x_sub [] rfl h
  · have h := h.2 c11
    refine x_iload (pc := 767) dL_built_767 6 rfl ?_
    refine x_aload_n (pc := 769) dL_built_769 2 rfl rfl ?_
    refine x_iload_n (pc := 770) dL_built_770 3 rfl rfl ?_
    obtain ⟨Q12, hc13, h⟩ := h
    refine x_callVI (pc := 771) 0 hc13 ok_X6_rounds dL_built_771 tb_444 ⟨⟨rfl, rfl⟩, ⟨by decide, by decide⟩, by decide, by decide⟩ (mK hG (by decide)) (mc_0 hG _) rfl (As := [.int a3]) rfl rfl (Nat.le_of_ble_eq_true rfl) (fun r14 m15 q16 => ?_)
    have h := h r14 m15 q16
    refine x_icmp_ne (pc := 774) (tgt := 954) dL_built_774 (by decide) (fun c17 => ?_) (fun c17 => ?_)
    · have h := h.1 c17
      exact x_sub [] rfl h
    · have h := h.2 c17
      refine x_iload (pc := 777) dL_built_777 9 rfl ?_
      refine x_aload_n (pc := 779) dL_built_779 2 rfl rfl ?_
      refine x_iload_n (pc := 780) dL_built_780 3 rfl rfl ?_
      obtain ⟨Q18, hc19, h⟩ := h
      refine x_callVI (pc := 781) 0 hc19 ok_X6_eccentricity dL_built_781 tb_374 ⟨⟨rfl, rfl⟩, ⟨by decide, by decide⟩, by decide, by decide⟩ (mK hG (by decide)) (mc_0 hG _) rfl (As := [.int a3]) rfl rfl (Nat.le_of_ble_eq_true rfl) (fun r20 m21 q22 => ?_)
      have h := h r20 m21 q22
      refine x_icmp_ne (pc := 784) (tgt := 954) dL_built_784 (by decide) (fun c23 => ?_) (fun c23 => ?_)
      · have h := h.1 c23
        exact x_sub [] rfl h
      · have h := h.2 c23
        refine x_iload (pc := 787) dL_built_787 8 rfl ?_
        refine x_aload_n (pc := 789) dL_built_789 2 rfl rfl ?_
        refine x_iload_n (pc := 790) dL_built_790 3 rfl rfl ?_
        obtain ⟨Q24, hc25, h⟩ := h
        refine x_callVI (pc := 791) 0 hc25 ok_X6_cost dL_built_791 tb_427 ⟨⟨rfl, rfl⟩, ⟨by decide, by decide⟩, by decide, by decide⟩ (mK hG (by decide)) (mc_0 hG _) rfl (As := [.int a3]) rfl rfl (Nat.le_of_ble_eq_true rfl) (fun r26 m27 q28 => ?_)
        have h := h r26 m27 q28
        refine x_icmp_ne (pc := 794) (tgt := 954) dL_built_794 (by decide) (fun c29 => ?_) (fun c29 => ?_)
        · have h := h.1 c29
          exact x_sub [] rfl h
        · have h := h.2 c29
          refine x_lload (pc := 797) dL_built_797 7 rfl ?_
          refine x_aload_n (pc := 799) dL_built_799 2 rfl rfl ?_
          refine x_iload_n (pc := 800) dL_built_800 3 rfl rfl ?_
          refine x_iconst (pc := 801) (v := 3) dL_built_801 (by decide) ?_
          obtain ⟨Q30, hc31, h⟩ := h
          refine x_callVL (pc := 802) 0 hc31 ok_X6_expectedReach dL_built_802 tb_536 ⟨⟨rfl, rfl⟩, ⟨by decide, by decide⟩, by decide, by decide⟩ (mK hG (by decide)) (mc_0 hG _) rfl (As := [.int a3, .int 3]) rfl rfl (Nat.le_of_ble_eq_true rfl) (fun r32 m33 q34 => ?_)
          have h := h r32 m33 q34
          refine x_lcmp (pc := 805) dL_built_805 ?_
          refine x_if_ne (pc := 806) (tgt := 954) dL_built_806 (by decide) (fun c35 => ?_) (fun c35 => ?_)
          · have h := h.1 c35
            exact x_sub [] rfl h
          · have h := h.2 c35
            exact x_sub [2, 3, 4, 5, 1, 0] rfl h
set_option maxRecDepth 100000 in
set_option maxHeartbeats 4000000 in
theorem t_L_built_809 {l : Launch} {G : Gx} {P : Int32 → Mem → Prop} (hG : Mn G) (a3 : Int32) (a4 : Int32) (a5 : Int32) (a12 : Int32) (a13 : Int32) (mem : Mem)
    (h : (a13 < a12 → (XI l M_L_built G P mem 954 [] [])) ∧ (¬ a13 < a12 → (∃ Q2 : Int32 → Mem → Prop, CtI l M_X6_distance G [.ref (gA G 0), .int a12, .int a13] mem Q2 ∧ ∀ (r4 : Int32) (m5 : Mem), Q2 r4 m5 → (∃ Q7 : Int32 → Mem → Prop, CtI l M_X6_diameter G [.ref (gA G 0), .int a3] m5 Q7 ∧ ∀ (r9 : Int32) (m10 : Mem), Q7 r9 m10 → ((¬ r4 = r9 → (XI l M_L_built G P m10 954 [] [])) ∧ (r4 = r9 → (∃ Q13 : Int32 → Mem → Prop, CtI l M_X6_treeOf G [.ref (gA G 0), .int a12] m10 Q13 ∧ ∀ (r15 : Int32) (m16 : Mem), Q13 r15 m16 → (∃ Q18 : Int32 → Mem → Prop, CtI l M_X6_treeOf G [.ref (gA G 0), .int a3] m16 Q18 ∧ ∀ (r20 : Int32) (m21 : Mem), Q18 r20 m21 → ((¬ r15 = r20 → (XI l M_L_built G P m21 954 [] [])) ∧ (r15 = r20 → (∃ Q24 : Int32 → Mem → Prop, CtI l M_X6_centre G [.ref (gA G 0), .int a3] m21 Q24 ∧ ∀ (r26 : Int32) (m27 : Mem), Q24 r26 m27 → (∃ Q29 : Int32 → Mem → Prop, CtI l M_X6_eccentricity G [.ref (gA G 0), .int r26] m27 Q29 ∧ ∀ (r31 : Int32) (m32 : Mem), Q29 r31 m32 → (∃ Q34 : Int32 → Mem → Prop, CtI l M_X6_diameter G [.ref (gA G 0), .int a3] m32 Q34 ∧ ∀ (r36 : Int32) (m37 : Mem), Q34 r36 m37 → (((2 * r31) < r36 → (XI l M_L_built G P m37 954 [] [])) ∧ (¬ (2 * r31) < r36 → (XI l M_L_built G P m37 865 [(0, .ref (gA G 0)), (3, .int a3), (4, .int a4), (5, .int a5)] [])))))))))))))))) :
    XI l M_L_built G P mem 809 [(0, .ref (gA G 0)), (3, .int a3), (4, .int a4), (5, .int a5), (12, .int a12), (13, .int a13)] [] := by
  refine x_iload (pc := 809) dL_built_809 4 rfl ?_
  refine x_iload (pc := 811) dL_built_811 5 rfl ?_
  refine x_icmp_gt (pc := 813) (tgt := 954) dL_built_813 (by decide) (fun c1 => ?_) (fun c1 => ?_)
  · have h := h.1 c1
    exact x_sub [] rfl h
  · have h := h.2 c1
    refine x_aload_n (pc := 816) dL_built_816 0 rfl rfl ?_
    refine x_iload (pc := 817) dL_built_817 4 rfl ?_
    refine x_iload (pc := 819) dL_built_819 5 rfl ?_
    obtain ⟨Q2, hc3, h⟩ := h
    refine x_callVI (pc := 821) 0 hc3 ok_X6_distance dL_built_821 tb_356 ⟨⟨rfl, rfl⟩, ⟨by decide, by decide⟩, by decide, by decide⟩ (mK hG (by decide)) (mc_0 hG _) rfl (As := [.int a12, .int a13]) rfl rfl (Nat.le_of_ble_eq_true rfl) (fun r4 m5 q6 => ?_)
    have h := h r4 m5 q6
    refine x_aload_n (pc := 824) dL_built_824 0 rfl rfl ?_
    refine x_iload_n (pc := 825) dL_built_825 1 rfl rfl ?_
    obtain ⟨Q7, hc8, h⟩ := h
    refine x_callVI (pc := 826) 0 hc8 ok_X6_diameter dL_built_826 tb_386 ⟨⟨rfl, rfl⟩, ⟨by decide, by decide⟩, by decide, by decide⟩ (mK hG (by decide)) (mc_0 hG _) rfl (As := [.int a3]) rfl rfl (Nat.le_of_ble_eq_true rfl) (fun r9 m10 q11 => ?_)
    have h := h r9 m10 q11
    refine x_icmp_ne (pc := 829) (tgt := 954) dL_built_829 (by decide) (fun c12 => ?_) (fun c12 => ?_)
    · have h := h.1 c12
      exact x_sub [] rfl h
    · have h := h.2 c12
      refine x_aload_n (pc := 832) dL_built_832 0 rfl rfl ?_
      refine x_iload (pc := 833) dL_built_833 4 rfl ?_
      obtain ⟨Q13, hc14, h⟩ := h
      refine x_callVI (pc := 835) 0 hc14 ok_X6_treeOf dL_built_835 tb_277 ⟨⟨rfl, rfl⟩, ⟨by decide, by decide⟩, by decide, by decide⟩ (mK hG (by decide)) (mc_0 hG _) rfl (As := [.int a12]) rfl rfl (Nat.le_of_ble_eq_true rfl) (fun r15 m16 q17 => ?_)
      have h := h r15 m16 q17
      refine x_aload_n (pc := 838) dL_built_838 0 rfl rfl ?_
      refine x_iload_n (pc := 839) dL_built_839 1 rfl rfl ?_
      obtain ⟨Q18, hc19, h⟩ := h
      refine x_callVI (pc := 840) 0 hc19 ok_X6_treeOf dL_built_840 tb_277 ⟨⟨rfl, rfl⟩, ⟨by decide, by decide⟩, by decide, by decide⟩ (mK hG (by decide)) (mc_0 hG _) rfl (As := [.int a3]) rfl rfl (Nat.le_of_ble_eq_true rfl) (fun r20 m21 q22 => ?_)
      have h := h r20 m21 q22
      refine x_icmp_ne (pc := 843) (tgt := 954) dL_built_843 (by decide) (fun c23 => ?_) (fun c23 => ?_)
      · have h := h.1 c23
        exact x_sub [] rfl h
      · have h := h.2 c23
        refine x_iconst (pc := 846) (v := 2) dL_built_846 (by decide) ?_
        refine x_aload_n (pc := 847) dL_built_847 0 rfl rfl ?_
        refine x_aload_n (pc := 848) dL_built_848 0 rfl rfl ?_
        refine x_iload_n (pc := 849) dL_built_849 1 rfl rfl ?_
        obtain ⟨Q24, hc25, h⟩ := h
        refine x_callVI (pc := 850) 0 hc25 ok_X6_centre dL_built_850 tb_405 ⟨⟨rfl, rfl⟩, ⟨by decide, by decide⟩, by decide, by decide⟩ (mK hG (by decide)) (mc_0 hG _) rfl (As := [.int a3]) rfl rfl (Nat.le_of_ble_eq_true rfl) (fun r26 m27 q28 => ?_)
        have h := h r26 m27 q28
        obtain ⟨Q29, hc30, h⟩ := h
        refine x_callVI (pc := 853) 0 hc30 ok_X6_eccentricity dL_built_853 tb_374 ⟨⟨rfl, rfl⟩, ⟨by decide, by decide⟩, by decide, by decide⟩ (mK hG (by decide)) (mc_0 hG _) rfl (As := [.int r26]) rfl rfl (Nat.le_of_ble_eq_true rfl) (fun r31 m32 q33 => ?_)
        have h := h r31 m32 q33
        refine x_imul (pc := 856) dL_built_856 ?_
        refine x_aload_n (pc := 857) dL_built_857 0 rfl rfl ?_
        refine x_iload_n (pc := 858) dL_built_858 1 rfl rfl ?_
        obtain ⟨Q34, hc35, h⟩ := h
        refine x_callVI (pc := 859) 0 hc35 ok_X6_diameter dL_built_859 tb_386 ⟨⟨rfl, rfl⟩, ⟨by decide, by decide⟩, by decide, by decide⟩ (mK hG (by decide)) (mc_0 hG _) rfl (As := [.int a3]) rfl rfl (Nat.le_of_ble_eq_true rfl) (fun r36 m37 q38 => ?_)
        have h := h r36 m37 q38
        refine x_icmp_lt (pc := 862) (tgt := 954) dL_built_862 (by decide) (fun c39 => ?_) (fun c39 => ?_)
        · have h := h.1 c39
          exact x_sub [] rfl h
        · have h := h.2 c39
          exact x_sub [0, 1, 2, 3] rfl h
set_option maxRecDepth 100000 in
set_option maxHeartbeats 4000000 in
theorem t_L_built_865 {l : Launch} {G : Gx} {P : Int32 → Mem → Prop} (hG : Mn G) (a3 : Int32) (a4 : Int32) (a5 : Int32) (mem : Mem)
    (h : ∃ Q1 : Int32 → Mem → Prop, CtI l M_X6_runScript G [.ref (gA G 0), .int 1, .long ((30000 + (((100 * a3) : Int32).toInt64)) + ((a4 : Int32).toInt64))] mem Q1 ∧ ∀ (r3 : Int32) (m4 : Mem), Q1 r3 m4 → ((¬ r3 = (-9) → (XI l M_L_built G P m4 954 [] [])) ∧ (r3 = (-9) → (∃ Q7 : Int32 → Mem → Prop, CtI l M_X6_centre G [.ref (gA G 0), .int a3] m4 Q7 ∧ ∀ (r9 : Int32) (m10 : Mem), Q7 r9 m10 → (∃ Q12 : Int32 → Mem → Prop, CtI l M_X6_runScript G [.ref (gA G 0), .int 1, .long ((40000 + (((100 * a3) : Int32).toInt64)) + ((r9 : Int32).toInt64))] m10 Q12 ∧ ∀ (r14 : Int32) (m15 : Mem), Q12 r14 m15 → ((¬ r14 = (-9) → (XI l M_L_built G P m15 954 [] [])) ∧ (r14 = (-9) → ((a5 = 0 → (XI l M_L_built G P m15 927 [(0, .ref (gA G 0)), (3, .int a3), (5, .int a5)] [])) ∧ (¬ a5 = 0 → (∃ Q19 : Int32 → Mem → Prop, CtI l M_X6_balancedCut G [.ref (gA G 0), .int a3] m15 Q19 ∧ ∀ (r21 : Int32) (m22 : Mem), Q19 r21 m22 → ((r21 < 0 → (XI l M_L_built G P m22 954 [] [])) ∧ (¬ r21 < 0 → (XI l M_L_built G P m22 927 [(0, .ref (gA G 0)), (3, .int a3), (5, .int a5)] []))))))))))))) :
    XI l M_L_built G P mem 865 [(0, .ref (gA G 0)), (3, .int a3), (4, .int a4), (5, .int a5)] [] := by
  refine x_aload_n (pc := 865) dL_built_865 0 rfl rfl ?_
  refine x_iconst (pc := 866) (v := 1) dL_built_866 (by decide) ?_
  refine x_ldc2 (pc := 867) (v := 30000) dL_built_867 tb_764 ?_
  refine x_bipush (pc := 870) (v := 100) dL_built_870 (by decide) ?_
  refine x_iload_n (pc := 872) dL_built_872 1 rfl rfl ?_
  refine x_imul (pc := 873) dL_built_873 ?_
  refine x_i2l (pc := 874) dL_built_874 ?_
  refine x_ladd (pc := 875) dL_built_875 ?_
  refine x_iload (pc := 876) dL_built_876 2 rfl ?_
  refine x_i2l (pc := 878) dL_built_878 ?_
  refine x_ladd (pc := 879) dL_built_879 ?_
  obtain ⟨Q1, hc2, h⟩ := h
  refine x_callVI (pc := 880) 0 hc2 ok_X6_runScript dL_built_880 tb_582 ⟨⟨rfl, rfl⟩, ⟨by decide, by decide⟩, by decide, by decide⟩ (mK hG (by decide)) (mc_0 hG _) rfl (As := [.int 1, .long ((30000 + (((100 * a3) : Int32).toInt64)) + ((a4 : Int32).toInt64))]) rfl rfl (Nat.le_of_ble_eq_true rfl) (fun r3 m4 q5 => ?_)
  have h := h r3 m4 q5
  refine x_bipush (pc := 883) (v := (-9)) dL_built_883 (by decide) ?_
  refine x_icmp_ne (pc := 885) (tgt := 954) dL_built_885 (by decide) (fun c6 => ?_) (fun c6 => ?_)
  · have h := h.1 c6
    exact x_sub [] rfl h
  · have h := h.2 c6
    refine x_aload_n (pc := 888) dL_built_888 0 rfl rfl ?_
    refine x_iconst (pc := 889) (v := 1) dL_built_889 (by decide) ?_
    refine x_ldc2 (pc := 890) (v := 40000) dL_built_890 tb_765 ?_
    refine x_bipush (pc := 893) (v := 100) dL_built_893 (by decide) ?_
    refine x_iload_n (pc := 895) dL_built_895 1 rfl rfl ?_
    refine x_imul (pc := 896) dL_built_896 ?_
    refine x_i2l (pc := 897) dL_built_897 ?_
    refine x_ladd (pc := 898) dL_built_898 ?_
    refine x_aload_n (pc := 899) dL_built_899 0 rfl rfl ?_
    refine x_iload_n (pc := 900) dL_built_900 1 rfl rfl ?_
    obtain ⟨Q7, hc8, h⟩ := h
    refine x_callVI (pc := 901) 0 hc8 ok_X6_centre dL_built_901 tb_405 ⟨⟨rfl, rfl⟩, ⟨by decide, by decide⟩, by decide, by decide⟩ (mK hG (by decide)) (mc_0 hG _) rfl (As := [.int a3]) rfl rfl (Nat.le_of_ble_eq_true rfl) (fun r9 m10 q11 => ?_)
    have h := h r9 m10 q11
    refine x_i2l (pc := 904) dL_built_904 ?_
    refine x_ladd (pc := 905) dL_built_905 ?_
    obtain ⟨Q12, hc13, h⟩ := h
    refine x_callVI (pc := 906) 0 hc13 ok_X6_runScript dL_built_906 tb_582 ⟨⟨rfl, rfl⟩, ⟨by decide, by decide⟩, by decide, by decide⟩ (mK hG (by decide)) (mc_0 hG _) rfl (As := [.int 1, .long ((40000 + (((100 * a3) : Int32).toInt64)) + ((r9 : Int32).toInt64))]) rfl rfl (Nat.le_of_ble_eq_true rfl) (fun r14 m15 q16 => ?_)
    have h := h r14 m15 q16
    refine x_bipush (pc := 909) (v := (-9)) dL_built_909 (by decide) ?_
    refine x_icmp_ne (pc := 911) (tgt := 954) dL_built_911 (by decide) (fun c17 => ?_) (fun c17 => ?_)
    · have h := h.1 c17
      exact x_sub [] rfl h
    · have h := h.2 c17
      refine x_iload (pc := 914) dL_built_914 3 rfl ?_
      refine x_if_eq (pc := 916) (tgt := 927) dL_built_916 (by decide) (fun c18 => ?_) (fun c18 => ?_)
      · have h := h.1 c18
        exact x_sub [0, 1, 3] rfl h
      · have h := h.2 c18
        refine x_aload_n (pc := 919) dL_built_919 0 rfl rfl ?_
        refine x_iload_n (pc := 920) dL_built_920 1 rfl rfl ?_
        obtain ⟨Q19, hc20, h⟩ := h
        refine x_callVI (pc := 921) 0 hc20 ok_X6_balancedCut dL_built_921 tb_523 ⟨⟨rfl, rfl⟩, ⟨by decide, by decide⟩, by decide, by decide⟩ (mK hG (by decide)) (mc_0 hG _) rfl (As := [.int a3]) rfl rfl (Nat.le_of_ble_eq_true rfl) (fun r21 m22 q23 => ?_)
        have h := h r21 m22 q23
        refine x_if_lt (pc := 924) (tgt := 954) dL_built_924 (by decide) (fun c24 => ?_) (fun c24 => ?_)
        · have h := h.1 c24
          exact x_sub [] rfl h
        · have h := h.2 c24
          exact x_sub [0, 1, 3] rfl h
set_option maxRecDepth 100000 in
set_option maxHeartbeats 4000000 in
theorem t_L_built_927 {l : Launch} {G : Gx} {P : Int32 → Mem → Prop} (hG : Mn G) (a3 : Int32) (a5 : Int32) (mem : Mem)
    (h : (0 < a5 → (XI l M_L_built G P mem 950 [] [])) ∧ (¬ 0 < a5 → (∃ Q2 : Int32 → Mem → Prop, CtI l M_X6_balancedCut G [.ref (gA G 0), .int a3] mem Q2 ∧ ∀ (r4 : Int32) (m5 : Mem), Q2 r4 m5 → ((¬ r4 = (-9) → (XI l M_L_built G P m5 954 [] [])) ∧ (r4 = (-9) → (∃ Q8 : Int32 → Mem → Prop, CtI l M_X6_rounds G [.ref (gA G 0), .int a3] m5 Q8 ∧ ∀ (r10 : Int32) (m11 : Mem), Q8 r10 m11 → ((¬ r10 = 0 → (XI l M_L_built G P m11 954 [] [])) ∧ (r10 = 0 → (XI l M_L_built G P m11 950 [] []))))))))) :
    XI l M_L_built G P mem 927 [(0, .ref (gA G 0)), (3, .int a3), (5, .int a5)] [] := by
  refine x_iload (pc := 927) dL_built_927 2 rfl ?_
  refine x_if_gt (pc := 929) (tgt := 950) dL_built_929 (by decide) (fun c1 => ?_) (fun c1 => ?_)
  · have h := h.1 c1
    exact x_sub [] rfl h
  · have h := h.2 c1
    refine x_aload_n (pc := 932) dL_built_932 0 rfl rfl ?_
    refine x_iload_n (pc := 933) dL_built_933 1 rfl rfl ?_
    obtain ⟨Q2, hc3, h⟩ := h
    refine x_callVI (pc := 934) 0 hc3 ok_X6_balancedCut dL_built_934 tb_523 ⟨⟨rfl, rfl⟩, ⟨by decide, by decide⟩, by decide, by decide⟩ (mK hG (by decide)) (mc_0 hG _) rfl (As := [.int a3]) rfl rfl (Nat.le_of_ble_eq_true rfl) (fun r4 m5 q6 => ?_)
    have h := h r4 m5 q6
    refine x_bipush (pc := 937) (v := (-9)) dL_built_937 (by decide) ?_
    refine x_icmp_ne (pc := 939) (tgt := 954) dL_built_939 (by decide) (fun c7 => ?_) (fun c7 => ?_)
    · have h := h.1 c7
      exact x_sub [] rfl h
    · have h := h.2 c7
      refine x_aload_n (pc := 942) dL_built_942 0 rfl rfl ?_
      refine x_iload_n (pc := 943) dL_built_943 1 rfl rfl ?_
      obtain ⟨Q8, hc9, h⟩ := h
      refine x_callVI (pc := 944) 0 hc9 ok_X6_rounds dL_built_944 tb_444 ⟨⟨rfl, rfl⟩, ⟨by decide, by decide⟩, by decide, by decide⟩ (mK hG (by decide)) (mc_0 hG _) rfl (As := [.int a3]) rfl rfl (Nat.le_of_ble_eq_true rfl) (fun r10 m11 q12 => ?_)
      have h := h r10 m11 q12
      refine x_if_ne (pc := 947) (tgt := 954) dL_built_947 (by decide) (fun c13 => ?_) (fun c13 => ?_)
      · have h := h.1 c13
        exact x_sub [] rfl h
      · have h := h.2 c13
        exact x_sub [] rfl h
set_option maxRecDepth 100000 in
set_option maxHeartbeats 4000000 in
theorem t_L_built_950 {l : Launch} {G : Gx} {P : Int32 → Mem → Prop} (hG : Mn G)  (mem : Mem)
    (h : P 1 mem) :
    XI l M_L_built G P mem 950 [] [] := by
  refine x_iconst (pc := 950) (v := 1) dL_built_950 (by decide) ?_
  refine x_goto (pc := 951) (tgt := 955) dL_built_951 (by decide) ?_
  exact x_endZ (pc := 955) dL_built_955 rfl (Or.inr rfl) h
set_option maxRecDepth 100000 in
set_option maxHeartbeats 4000000 in
theorem t_L_built_954 {l : Launch} {G : Gx} {P : Int32 → Mem → Prop} (hG : Mn G)  (mem : Mem)
    (h : P 0 mem) :
    XI l M_L_built G P mem 954 [] [] := by
  refine x_iconst (pc := 954) (v := 0) dL_built_954 (by decide) ?_
  exact x_endZ (pc := 955) dL_built_955 rfl (Or.inl rfl) h
