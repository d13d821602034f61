set_option maxRecDepth 100000 in
set_option maxHeartbeats 4000000 in
theorem t_L_ahead_0 {l : Launch} {G : Gx} {P : Int32 → Mem → Prop} (hG : Mn G) (a1 : Int32) (mem : Mem)
    (h : ∃ Q1 : Int64 → Mem → Prop, CtL l M_L_now G [.ref (gA G 0)] mem Q1 ∧ ∀ (r3 : Int64) (m4 : Mem), Q1 r3 m4 → (∃ Q6 : Int32 → Mem → Prop, CtI l M_L_vertices G [.ref (gA G 0)] m4 Q6 ∧ ∀ (r8 : Int32) (m9 : Mem), Q6 r8 m9 → (∃ Q11 : Int32 → Mem → Prop, CtI l M_X6_save G [.ref (gA G 0), .int 1] m9 Q11 ∧ ∀ (r13 : Int32) (m14 : Mem), Q11 r13 m14 → (¬ r8 = 0 ∧ (¬ r8 = 0 ∧ ((r13 < 0 → (XI l M_L_ahead G P m14 57 [(0, .ref (gA G 0)), (2, .long r3), (4, .int r8), (5, .int r13), (6, .int (a1 - a1 / r8 * r8)), (7, .int ((a1 / 12) - (a1 / 12) / r8 * r8)), (8, .int (1 + ((a1 / 144) - (a1 / 144) / 99 * 99))), (9, .int 0)] [])) ∧ (¬ r13 < 0 → (XI l M_L_ahead G P m14 57 [(0, .ref (gA G 0)), (2, .long r3), (4, .int r8), (5, .int r13), (6, .int (a1 - a1 / r8 * r8)), (7, .int ((a1 / 12) - (a1 / 12) / r8 * r8)), (8, .int (1 + ((a1 / 144) - (a1 / 144) / 99 * 99))), (9, .int 1)] [])))))))) :
    XI l M_L_ahead G P mem 0 [(0, .ref (gA G 0)), (1, .int a1)] [] := by
  refine x_aload_n (pc := 0) dL_ahead_0 0 rfl rfl ?_
  obtain ⟨Q1, hc2, h⟩ := h
  refine x_callSL (pc := 1) hc2 ok_L_now dL_ahead_1 tb_747 ⟨⟨rfl, rfl⟩, ⟨by decide, by decide⟩, by decide, by decide⟩ rfl rfl (Nat.le_of_ble_eq_true rfl) (fun r3 m4 q5 => ?_)
  have h := h r3 m4 q5
  refine x_lstore_n (pc := 4) dL_ahead_4 rfl (by decide) rfl ?_
  refine x_aload_n (pc := 5) dL_ahead_5 1 rfl rfl ?_
  obtain ⟨Q6, hc7, h⟩ := h
  refine x_callSI (pc := 6) hc7 ok_L_vertices dL_ahead_6 tb_231 ⟨⟨rfl, rfl⟩, ⟨by decide, by decide⟩, by decide, by decide⟩ rfl rfl (Nat.le_of_ble_eq_true rfl) (fun r8 m9 q10 => ?_)
  have h := h r8 m9 q10
  refine x_istore (pc := 9) dL_ahead_9 (by decide) rfl ?_
  refine x_aload_n (pc := 11) dL_ahead_11 2 rfl rfl ?_
  refine x_iconst (pc := 12) (v := 1) dL_ahead_12 (by decide) ?_
  obtain ⟨Q11, hc12, h⟩ := h
  refine x_callVI (pc := 13) 0 hc12 ok_X6_save dL_ahead_13 tb_620 ⟨⟨rfl, rfl⟩, ⟨by decide, by decide⟩, by decide, by decide⟩ (mK hG (by decide)) (mc_0 hG _) rfl (As := [.int 1]) rfl rfl (Nat.le_of_ble_eq_true rfl) (fun r13 m14 q15 => ?_)
  have h := h r13 m14 q15
  refine x_istore (pc := 16) dL_ahead_16 (by decide) rfl ?_
  refine x_iload_n (pc := 18) dL_ahead_18 4 rfl rfl ?_
  refine x_iload (pc := 19) dL_ahead_19 1 rfl ?_
  refine x_irem (pc := 21) dL_ahead_21 h.1 ?_
  have h := h.2
  refine x_istore (pc := 22) dL_ahead_22 (by decide) rfl ?_
  refine x_iload_n (pc := 24) dL_ahead_24 5 rfl rfl ?_
  refine x_bipush (pc := 25) (v := 12) dL_ahead_25 (by decide) ?_
  refine x_idiv (pc := 27) dL_ahead_27 (by decide) ?_
  refine x_iload (pc := 28) dL_ahead_28 2 rfl ?_
  refine x_irem (pc := 30) dL_ahead_30 h.1 ?_
  have h := h.2
  refine x_istore (pc := 31) dL_ahead_31 (by decide) rfl ?_
  refine x_iconst (pc := 33) (v := 1) dL_ahead_33 (by decide) ?_
  refine x_iload_n (pc := 34) dL_ahead_34 6 rfl rfl ?_
  refine x_sipush (pc := 35) (v := 144) dL_ahead_35 (by decide) ?_
  refine x_idiv (pc := 38) dL_ahead_38 (by decide) ?_
  refine x_bipush (pc := 39) (v := 99) dL_ahead_39 (by decide) ?_
  refine x_irem (pc := 41) dL_ahead_41 (by decide) ?_
  refine x_iadd (pc := 42) dL_ahead_42 ?_
  refine x_istore (pc := 43) dL_ahead_43 (by decide) rfl ?_
  refine x_iload (pc := 45) dL_ahead_45 3 rfl ?_
  refine x_if_lt (pc := 47) (tgt := 54) dL_ahead_47 (by decide) (fun c16 => ?_) (fun c16 => ?_)
  · have h := h.1 c16
    refine x_iconst (pc := 54) (v := 0) dL_ahead_54 (by decide) ?_
    refine x_istore (pc := 55) dL_ahead_55 (by decide) rfl ?_
    exact x_sub [7, 6, 5, 4, 3, 2, 1, 0] rfl h
  · have h := h.2 c16
    refine x_iconst (pc := 50) (v := 1) dL_ahead_50 (by decide) ?_
    refine x_goto (pc := 51) (tgt := 55) dL_ahead_51 (by decide) ?_
    refine x_istore (pc := 55) dL_ahead_55 (by decide) rfl ?_
    exact x_sub [7, 6, 5, 4, 3, 2, 1, 0] rfl h
set_option maxRecDepth 100000 in
set_option maxHeartbeats 4000000 in
theorem t_L_ahead_57 {l : Launch} {G : Gx} {P : Int32 → Mem → Prop} (hG : Mn G) (a2 : Int64) (a4 : Int32) (a5 : Int32) (a6 : Int32) (a7 : Int32) (a8 : Int32) (a9 : Int32) (mem : Mem)
    (h : ∃ Q1 : Int32 → Mem → Prop, CtI l M_X6_treeOf G [.ref (gA G 0), .int a6] mem Q1 ∧ ∀ (r3 : Int32) (m4 : Mem), Q1 r3 m4 → (∃ Q6 : Int32 → Mem → Prop, CtI l M_X6_treeOf G [.ref (gA G 0), .int a7] m4 Q6 ∧ ∀ (r8 : Int32) (m9 : Mem), Q6 r8 m9 → ((r3 = r8 → (XI l M_L_ahead G P m9 224 [(0, .ref (gA G 0)), (2, .long a2), (4, .int a4), (5, .int a5), (6, .int a6), (7, .int a7), (8, .int a8), (9, .int a9)] [])) ∧ (¬ r3 = r8 → ((a9 = 0 → (XI l M_L_ahead G P m9 221 [(0, .ref (gA G 0)), (2, .long a2), (4, .int a4), (5, .int a5), (6, .int a6), (7, .int a7), (8, .int a8)] [])) ∧ (¬ a9 = 0 → (∃ Q13 : Int32 → Mem → Prop, CtI l M_X6_link G [.ref (gA G 0), .int a6, .int a7, .int a8] m9 Q13 ∧ ∀ (r15 : Int32) (m16 : Mem), Q13 r15 m16 → ((¬ r15 = (a5 + 1) → (XI l M_L_ahead G P m16 221 [(0, .ref (gA G 0)), (2, .long a2), (4, .int a4), (5, .int a5), (6, .int a6), (7, .int a7), (8, .int a8)] [])) ∧ (r15 = (a5 + 1) → (∃ Q19 : Int32 → Mem → Prop, CtI l M_X6_distance G [.ref (gA G 0), .int a6, .int a7] m16 Q19 ∧ ∀ (r21 : Int32) (m22 : Mem), Q19 r21 m22 → ((¬ r21 = a8 → (XI l M_L_ahead G P m22 221 [(0, .ref (gA G 0)), (2, .long a2), (4, .int a4), (5, .int a5), (6, .int a6), (7, .int a7), (8, .int a8)] [])) ∧ (r21 = a8 → (∃ Q25 : Int32 → Mem → Prop, CtI l M_X6_treeOf G [.ref (gA G 0), .int a6] m22 Q25 ∧ ∀ (r27 : Int32) (m28 : Mem), Q25 r27 m28 → (∃ Q30 : Int32 → Mem → Prop, CtI l M_X6_treeOf G [.ref (gA G 0), .int a7] m28 Q30 ∧ ∀ (r32 : Int32) (m33 : Mem), Q30 r32 m33 → ((¬ r27 = r32 → (XI l M_L_ahead G P m33 221 [(0, .ref (gA G 0)), (2, .long a2), (4, .int a4), (5, .int a5), (6, .int a6), (7, .int a7), (8, .int a8)] [])) ∧ (r27 = r32 → (XI l M_L_ahead G P m33 122 [(0, .ref (gA G 0)), (2, .long a2), (4, .int a4), (5, .int a5), (6, .int a6), (7, .int a7), (8, .int a8)] []))))))))))))))))) :
    XI l M_L_ahead G P mem 57 [(0, .ref (gA G 0)), (2, .long a2), (4, .int a4), (5, .int a5), (6, .int a6), (7, .int a7), (8, .int a8), (9, .int a9)] [] := by
  refine x_aload_n (pc := 57) dL_ahead_57 0 rfl rfl ?_
  refine x_iload (pc := 58) dL_ahead_58 4 rfl ?_
  obtain ⟨Q1, hc2, h⟩ := h
  refine x_callVI (pc := 60) 0 hc2 ok_X6_treeOf dL_ahead_60 tb_277 ⟨⟨rfl, rfl⟩, ⟨by decide, by decide⟩, by decide, by decide⟩ (mK hG (by decide)) (mc_0 hG _) rfl (As := [.int a6]) rfl rfl (Nat.le_of_ble_eq_true rfl) (fun r3 m4 q5 => ?_)
  have h := h r3 m4 q5
  refine x_aload_n (pc := 63) dL_ahead_63 0 rfl rfl ?_
  refine x_iload (pc := 64) dL_ahead_64 5 rfl ?_
  obtain ⟨Q6, hc7, h⟩ := h
  refine x_callVI (pc := 66) 0 hc7 ok_X6_treeOf dL_ahead_66 tb_277 ⟨⟨rfl, rfl⟩, ⟨by decide, by decide⟩, by decide, by decide⟩ (mK hG (by decide)) (mc_0 hG _) rfl (As := [.int a7]) rfl rfl (Nat.le_of_ble_eq_true rfl) (fun r8 m9 q10 => ?_)
  have h := h r8 m9 q10
  refine x_icmp_eq (pc := 69) (tgt := 224) dL_ahead_69 (by decide) (fun c11 => ?_) (fun c11 => ?_)
  · have h := h.1 c11
    exact x_sub [0, 1, 2, 3, 4, 5, 6, 7] rfl h
  · have h := h.2 c11
    refine x_iload (pc := 72) dL_ahead_72 7 rfl ?_
    refine x_if_eq (pc := 74) (tgt := 221) dL_ahead_74 (by decide) (fun c12 => ?_) (fun c12 => ?_)
    · have h := h.1 c12
      exact x_sub [0, 1, 2, 3, 4, 5, 6] rfl h
    · have h := h.2 c12
      refine x_aload_n (pc := 77) dL_ahead_77 0 rfl rfl ?_
      refine x_iload (pc := 78) dL_ahead_78 4 rfl ?_
      refine x_iload (pc := 80) dL_ahead_80 5 rfl ?_
      refine x_iload (pc := 82) dL_ahead_82 6 rfl ?_
      obtain ⟨Q13, hc14, h⟩ := h
      refine x_callVI (pc := 84) 0 hc14 ok_X6_link dL_ahead_84 tb_308 ⟨⟨rfl, rfl⟩, ⟨by decide, by decide⟩, by decide, by decide⟩ (mK hG (by decide)) (mc_0 hG _) rfl (As := [.int a6, .int a7, .int a8]) rfl rfl (Nat.le_of_ble_eq_true rfl) (fun r15 m16 q17 => ?_)
      have h := h r15 m16 q17
      refine x_iload (pc := 87) dL_ahead_87 3 rfl ?_
      refine x_iconst (pc := 89) (v := 1) dL_ahead_89 (by decide) ?_
      refine x_iadd (pc := 90) dL_ahead_90 ?_
      refine x_icmp_ne (pc := 91) (tgt := 221) dL_ahead_91 (by decide) (fun c18 => ?_) (fun c18 => ?_)
      · have h := h.1 c18
        exact x_sub [0, 1, 2, 3, 4, 5, 6] rfl h
      · have h := h.2 c18
        refine x_aload_n (pc := 94) dL_ahead_94 0 rfl rfl ?_
        refine x_iload (pc := 95) dL_ahead_95 4 rfl ?_
        refine x_iload (pc := 97) dL_ahead_97 5 rfl ?_
        obtain ⟨Q19, hc20, h⟩ := h
        refine x_callVI (pc := 99) 0 hc20 ok_X6_distance dL_ahead_99 tb_356 ⟨⟨rfl, rfl⟩, ⟨by decide, by decide⟩, by decide, by decide⟩ (mK hG (by decide)) (mc_0 hG _) rfl (As := [.int a6, .int a7]) rfl rfl (Nat.le_of_ble_eq_true rfl) (fun r21 m22 q23 => ?_)
        have h := h r21 m22 q23
        refine x_iload (pc := 102) dL_ahead_102 6 rfl ?_
        refine x_icmp_ne (pc := 104) (tgt := 221) dL_ahead_104 (by decide) (fun c24 => ?_) (fun c24 => ?_)
        · have h := h.1 c24
          exact x_sub [0, 1, 2, 3, 4, 5, 6] rfl h
        · have h := h.2 c24
          refine x_aload_n (pc := 107) dL_ahead_107 0 rfl rfl ?_
          refine x_iload (pc := 108) dL_ahead_108 4 rfl ?_
          obtain ⟨Q25, hc26, h⟩ := h
          refine x_callVI (pc := 110) 0 hc26 ok_X6_treeOf dL_ahead_110 tb_277 ⟨⟨rfl, rfl⟩, ⟨by decide, by decide⟩, by decide, by decide⟩ (mK hG (by decide)) (mc_0 hG _) rfl (As := [.int a6]) rfl rfl (Nat.le_of_ble_eq_true rfl) (fun r27 m28 q29 => ?_)
          have h := h r27 m28 q29
          refine x_aload_n (pc := 113) dL_ahead_113 0 rfl rfl ?_
          refine x_iload (pc := 114) dL_ahead_114 5 rfl ?_
          obtain ⟨Q30, hc31, h⟩ := h
          refine x_callVI (pc := 116) 0 hc31 ok_X6_treeOf dL_ahead_116 tb_277 ⟨⟨rfl, rfl⟩, ⟨by decide, by decide⟩, by decide, by decide⟩ (mK hG (by decide)) (mc_0 hG _) rfl (As := [.int a7]) rfl rfl (Nat.le_of_ble_eq_true rfl) (fun r32 m33 q34 => ?_)
          have h := h r32 m33 q34
          refine x_icmp_ne (pc := 119) (tgt := 221) dL_ahead_119 (by decide) (fun c35 => ?_) (fun c35 => ?_)
          · have h := h.1 c35
            exact x_sub [0, 1, 2, 3, 4, 5, 6] rfl h
          · have h := h.2 c35
            exact x_sub [0, 1, 2, 3, 4, 5, 6] rfl h
set_option maxRecDepth 100000 in
set_option maxHeartbeats 4000000 in
theorem t_L_ahead_122 {l : Launch} {G : Gx} {P : Int32 → Mem → Prop} (hG : Mn G) (a2 : Int64) (a4 : Int32) (a5 : Int32) (a6 : Int32) (a7 : Int32) (a8 : Int32) (mem : Mem)
    (h : ∃ Q1 : Int32 → Mem → Prop, CtI l M_X6_runScript G [.ref (gA G 0), .int 2, .long (((2000030000 + (100000 * ((((100 * a6) + a7) : Int32).toInt64))) + (((100 * a6) : Int32).toInt64)) + ((a7 : Int32).toInt64))] mem Q1 ∧ ∀ (r3 : Int32) (m4 : Mem), Q1 r3 m4 → ((¬ r3 = 1 → (XI l M_L_ahead G P m4 221 [(0, .ref (gA G 0)), (2, .long a2), (4, .int a4), (5, .int a5), (6, .int a6), (7, .int a7), (8, .int a8)] [])) ∧ (r3 = 1 → (∃ Q7 : Int32 → Mem → Prop, CtI l M_X6_cut G [.ref (gA G 0), .int a7, .int a6] m4 Q7 ∧ ∀ (r9 : Int32) (m10 : Mem), Q7 r9 m10 → ((¬ r9 = a8 → (XI l M_L_ahead G P m10 221 [(0, .ref (gA G 0)), (2, .long a2), (4, .int a4), (5, .int a5), (6, .int a6), (7, .int a7), (8, .int a8)] [])) ∧ (r9 = a8 → (∃ Q13 : Int64 → Mem → Prop, CtL l M_L_now G [.ref (gA G 0)] m10 Q13 ∧ ∀ (r15 : Int64) (m16 : Mem), Q13 r15 m16 → ((¬ (lg_cmp r15 a2) = 0 → (XI l M_L_ahead G P m16 221 [(0, .ref (gA G 0)), (2, .long a2), (4, .int a4), (5, .int a5), (6, .int a6), (7, .int a7), (8, .int a8)] [])) ∧ ((lg_cmp r15 a2) = 0 → (∃ Q19 : Int32 → Mem → Prop, CtI l M_X6_undo G [.ref (gA G 0)] m16 Q19 ∧ ∀ (r21 : Int32) (m22 : Mem), Q19 r21 m22 → ((r21 < 0 → (XI l M_L_ahead G P m22 221 [(0, .ref (gA G 0)), (2, .long a2), (4, .int a4), (5, .int a5), (6, .int a6), (7, .int a7), (8, .int a8)] [])) ∧ (¬ r21 < 0 → (∃ Q25 : Int32 → Mem → Prop, CtI l M_X6_edgeWeight G [.ref (gA G 0), .int a7, .int a6] m22 Q25 ∧ ∀ (r27 : Int32) (m28 : Mem), Q25 r27 m28 → ((¬ r27 = a8 → (XI l M_L_ahead G P m28 221 [(0, .ref (gA G 0)), (2, .long a2), (4, .int a4), (5, .int a5), (6, .int a6), (7, .int a7), (8, .int a8)] [])) ∧ (r27 = a8 → (∃ Q31 : Int32 → Mem → Prop, CtI l M_X6_undo G [.ref (gA G 0)] m28 Q31 ∧ ∀ (r33 : Int32) (m34 : Mem), Q31 r33 m34 → ((r33 < 0 → (XI l M_L_ahead G P m34 221 [(0, .ref (gA G 0)), (2, .long a2), (4, .int a4), (5, .int a5), (6, .int a6), (7, .int a7), (8, .int a8)] [])) ∧ (¬ r33 < 0 → (XI l M_L_ahead G P m34 208 [(0, .ref (gA G 0)), (2, .long a2), (4, .int a4), (5, .int a5), (6, .int a6), (7, .int a7), (8, .int a8)] []))))))))))))))))))) :
    XI l M_L_ahead G P mem 122 [(0, .ref (gA G 0)), (2, .long a2), (4, .int a4), (5, .int a5), (6, .int a6), (7, .int a7), (8, .int a8)] [] := by
  refine x_aload_n (pc := 122) dL_ahead_122 0 rfl rfl ?_
  refine x_iconst (pc := 123) (v := 2) dL_ahead_123 (by decide) ?_
  refine x_ldc2 (pc := 124) (v := 2000030000) dL_ahead_124 tb_769 ?_
  refine x_ldc2 (pc := 127) (v := 100000) dL_ahead_127 tb_608 ?_
  refine x_bipush (pc := 130) (v := 100) dL_ahead_130 (by decide) ?_
  refine x_iload (pc := 132) dL_ahead_132 4 rfl ?_
  refine x_imul (pc := 134) dL_ahead_134 ?_
  refine x_iload (pc := 135) dL_ahead_135 5 rfl ?_
  refine x_iadd (pc := 137) dL_ahead_137 ?_
  refine x_i2l (pc := 138) dL_ahead_138 ?_
  refine x_lmul (pc := 139) dL_ahead_139 ?_
  refine x_ladd (pc := 140) dL_ahead_140 ?_
  refine x_bipush (pc := 141) (v := 100) dL_ahead_141 (by decide) ?_
  refine x_iload (pc := 143) dL_ahead_143 4 rfl ?_
  refine x_imul (pc := 145) dL_ahead_145 ?_
  refine x_i2l (pc := 146) dL_ahead_146 ?_
  refine x_ladd (pc := 147) dL_ahead_147 ?_
  refine x_iload (pc := 148) dL_ahead_148 5 rfl ?_
  refine x_i2l (pc := 150) dL_ahead_150 ?_
  refine x_ladd (pc := 151) dL_ahead_151 ?_
  obtain ⟨Q1, hc2, h⟩ := h
  refine x_callVI (pc := 152) 0 hc2 ok_X6_runScript dL_ahead_152 tb_582 ⟨⟨rfl, rfl⟩, ⟨by decide, by decide⟩, by decide, by decide⟩ (mK hG (by decide)) (mc_0 hG _) rfl (As := [.int 2, .long (((2000030000 + (100000 * ((((100 * a6) + a7) : Int32).toInt64))) + (((100 * a6) : Int32).toInt64)) + ((a7 : Int32).toInt64))]) rfl rfl (Nat.le_of_ble_eq_true rfl) (fun r3 m4 q5 => ?_)
  have h := h r3 m4 q5
  refine x_iconst (pc := 155) (v := 1) dL_ahead_155 (by decide) ?_
  refine x_icmp_ne (pc := 156) (tgt := 221) dL_ahead_156 (by decide) (fun c6 => ?_) (fun c6 => ?_)
  · have h := h.1 c6
    exact x_sub [0, 1, 2, 3, 4, 5, 6] rfl h
  · have h := h.2 c6
    refine x_aload_n (pc := 159) dL_ahead_159 0 rfl rfl ?_
    refine x_iload (pc := 160) dL_ahead_160 5 rfl ?_
    refine x_iload (pc := 162) dL_ahead_162 4 rfl ?_
    obtain ⟨Q7, hc8, h⟩ := h
    refine x_callVI (pc := 164) 0 hc8 ok_X6_cut dL_ahead_164 tb_337 ⟨⟨rfl, rfl⟩, ⟨by decide, by decide⟩, by decide, by decide⟩ (mK hG (by decide)) (mc_0 hG _) rfl (As := [.int a7, .int a6]) rfl rfl (Nat.le_of_ble_eq_true rfl) (fun r9 m10 q11 => ?_)
    have h := h r9 m10 q11
    refine x_iload (pc := 167) dL_ahead_167 6 rfl ?_
    refine x_icmp_ne (pc := 169) (tgt := 221) dL_ahead_169 (by decide) (fun c12 => ?_) (fun c12 => ?_)
    · have h := h.1 c12
      exact x_sub [0, 1, 2, 3, 4, 5, 6] rfl h
    · have h := h.2 c12
      refine x_aload_n (pc := 172) dL_ahead_172 0 rfl rfl ?_
      obtain ⟨Q13, hc14, h⟩ := h
      refine x_callSL (pc := 173) hc14 ok_L_now dL_ahead_173 tb_747 ⟨⟨rfl, rfl⟩, ⟨by decide, by decide⟩, by decide, by decide⟩ rfl rfl (Nat.le_of_ble_eq_true rfl) (fun r15 m16 q17 => ?_)
      have h := h r15 m16 q17
      refine x_lload_n (pc := 176) dL_ahead_176 1 rfl rfl ?_
      refine x_lcmp (pc := 177) dL_ahead_177 ?_
      refine x_if_ne (pc := 178) (tgt := 221) dL_ahead_178 (by decide) (fun c18 => ?_) (fun c18 => ?_)
      · have h := h.1 c18
        exact x_sub [0, 1, 2, 3, 4, 5, 6] rfl h
      · have h := h.2 c18
        refine x_aload_n (pc := 181) dL_ahead_181 0 rfl rfl ?_
        obtain ⟨Q19, hc20, h⟩ := h
        refine x_callVI (pc := 182) 0 hc20 ok_X6_undo dL_ahead_182 tb_731 ⟨⟨rfl, rfl⟩, ⟨by decide, by decide⟩, by decide, by decide⟩ (mK hG (by decide)) (mc_0 hG _) rfl (As := []) rfl rfl (Nat.le_of_ble_eq_true rfl) (fun r21 m22 q23 => ?_)
        have h := h r21 m22 q23
        refine x_if_lt (pc := 185) (tgt := 221) dL_ahead_185 (by decide) (fun c24 => ?_) (fun c24 => ?_)
        · have h := h.1 c24
          exact x_sub [0, 1, 2, 3, 4, 5, 6] rfl h
        · have h := h.2 c24
          refine x_aload_n (pc := 188) dL_ahead_188 0 rfl rfl ?_
          refine x_iload (pc := 189) dL_ahead_189 5 rfl ?_
          refine x_iload (pc := 191) dL_ahead_191 4 rfl ?_
          obtain ⟨Q25, hc26, h⟩ := h
          refine x_callVI (pc := 193) 0 hc26 ok_X6_edgeWeight dL_ahead_193 tb_259 ⟨⟨rfl, rfl⟩, ⟨by decide, by decide⟩, by decide, by decide⟩ (mK hG (by decide)) (mc_0 hG _) rfl (As := [.int a7, .int a6]) rfl rfl (Nat.le_of_ble_eq_true rfl) (fun r27 m28 q29 => ?_)
          have h := h r27 m28 q29
          refine x_iload (pc := 196) dL_ahead_196 6 rfl ?_
          refine x_icmp_ne (pc := 198) (tgt := 221) dL_ahead_198 (by decide) (fun c30 => ?_) (fun c30 => ?_)
          · have h := h.1 c30
            exact x_sub [0, 1, 2, 3, 4, 5, 6] rfl h
          · have h := h.2 c30
            refine x_aload_n (pc := 201) dL_ahead_201 0 rfl rfl ?_
            obtain ⟨Q31, hc32, h⟩ := h
            refine x_callVI (pc := 202) 0 hc32 ok_X6_undo dL_ahead_202 tb_731 ⟨⟨rfl, rfl⟩, ⟨by decide, by decide⟩, by decide, by decide⟩ (mK hG (by decide)) (mc_0 hG _) rfl (As := []) rfl rfl (Nat.le_of_ble_eq_true rfl) (fun r33 m34 q35 => ?_)
            have h := h r33 m34 q35
            refine x_if_lt (pc := 205) (tgt := 221) dL_ahead_205 (by decide) (fun c36 => ?_) (fun c36 => ?_)
            · have h := h.1 c36
              exact x_sub [0, 1, 2, 3, 4, 5, 6] rfl h
            · have h := h.2 c36
              exact x_sub [0, 1, 2, 3, 4, 5, 6] rfl h
set_option maxRecDepth 100000 in
set_option maxHeartbeats 4000000 in
theorem t_L_ahead_208 {l : Launch} {G : Gx} {P : Int32 → Mem → Prop} (hG : Mn G) (a2 : Int64) (a4 : Int32) (a5 : Int32) (a6 : Int32) (a7 : Int32) (a8 : Int32) (mem : Mem)
    (h : ∃ Q1 : Int64 → Mem → Prop, CtL l M_L_now G [.ref (gA G 0)] mem Q1 ∧ ∀ (r3 : Int64) (m4 : Mem), Q1 r3 m4 → ((¬ (lg_cmp r3 a2) = 0 → (XI l M_L_ahead G P m4 221 [(0, .ref (gA G 0)), (2, .long a2), (4, .int a4), (5, .int a5), (6, .int a6), (7, .int a7), (8, .int a8)] [])) ∧ ((lg_cmp r3 a2) = 0 → (XI l M_L_ahead G P m4 224 [(0, .ref (gA G 0)), (2, .long a2), (4, .int a4), (5, .int a5), (6, .int a6), (7, .int a7), (8, .int a8), (9, .int 1)] [])))) :
    XI l M_L_ahead G P mem 208 [(0, .ref (gA G 0)), (2, .long a2), (4, .int a4), (5, .int a5), (6, .int a6), (7, .int a7), (8, .int a8)] [] := by
  refine x_aload_n (pc := 208) dL_ahead_208 0 rfl rfl ?_
  obtain ⟨Q1, hc2, h⟩ := h
  refine x_callSL (pc := 209) hc2 ok_L_now dL_ahead_209 tb_747 ⟨⟨rfl, rfl⟩, ⟨by decide, by decide⟩, by decide, by decide⟩ rfl rfl (Nat.le_of_ble_eq_true rfl) (fun r3 m4 q5 => ?_)
  have h := h r3 m4 q5
  refine x_lload_n (pc := 212) dL_ahead_212 1 rfl rfl ?_
  refine x_lcmp (pc := 213) dL_ahead_213 ?_
  refine x_if_ne (pc := 214) (tgt := 221) dL_ahead_214 (by decide) (fun c6 => ?_) (fun c6 => ?_)
  · have h := h.1 c6
    exact x_sub [0, 1, 2, 3, 4, 5, 6] rfl h
  · have h := h.2 c6
    refine x_iconst (pc := 217) (v := 1) dL_ahead_217 (by decide) ?_
    refine x_goto (pc := 218) (tgt := 222) dL_ahead_218 (by decide) ?_
    refine x_istore (pc := 222) dL_ahead_222 (by decide) rfl ?_
    exact x_sub [1, 2, 3, 4, 5, 6, 7, 0] rfl h
set_option maxRecDepth 100000 in
set_option maxHeartbeats 4000000 in
theorem t_L_ahead_221 {l : Launch} {G : Gx} {P : Int32 → Mem → Prop} (hG : Mn G) (a2 : Int64) (a4 : Int32) (a5 : Int32) (a6 : Int32) (a7 : Int32) (a8 : Int32) (mem : Mem)
    (h : XI l M_L_ahead G P mem 224 [(0, .ref (gA G 0)), (2, .long a2), (4, .int a4), (5, .int a5), (6, .int a6), (7, .int a7), (8, .int a8), (9, .int 0)] []) :
    XI l M_L_ahead G P mem 221 [(0, .ref (gA G 0)), (2, .long a2), (4, .int a4), (5, .int a5), (6, .int a6), (7, .int a7), (8, .int a8)] [] := by
  refine x_iconst (pc := 221) (v := 0) dL_ahead_221 (by decide) ?_
  refine x_istore (pc := 222) dL_ahead_222 (by decide) rfl ?_
  exact x_sub [1, 2, 3, 4, 5, 6, 7, 0] rfl h
set_option maxRecDepth 100000 in
set_option maxHeartbeats 4000000 in
theorem t_L_ahead_224 {l : Launch} {G : Gx} {P : Int32 → Mem → Prop} (hG : Mn G) (a2 : Int64) (a4 : Int32) (a5 : Int32) (a6 : Int32) (a7 : Int32) (a8 : Int32) (a9 : Int32) (mem : Mem)
    (h : XI l M_L_ahead G P mem 227 [(0, .ref (gA G 0)), (2, .long a2), (4, .int a4), (5, .int a5), (6, .int a6), (7, .int a7), (8, .int a8), (9, .int a9), (10, .int 0)] []) :
    XI l M_L_ahead G P mem 224 [(0, .ref (gA G 0)), (2, .long a2), (4, .int a4), (5, .int a5), (6, .int a6), (7, .int a7), (8, .int a8), (9, .int a9)] [] := by
  refine x_iconst (pc := 224) (v := 0) dL_ahead_224 (by decide) ?_
  refine x_istore (pc := 225) dL_ahead_225 (by decide) rfl ?_
  exact x_sub [1, 2, 3, 4, 5, 6, 7, 8, 0] rfl h
set_option maxRecDepth 100000 in
set_option maxHeartbeats 4000000 in
theorem t_L_ahead_227 {l : Launch} {G : Gx} {P : Int32 → Mem → Prop} (hG : Mn G) (a2 : Int64) (a4 : Int32) (a5 : Int32) (a6 : Int32) (a7 : Int32) (a8 : Int32) (a9 : Int32) (a10 : Int32) (mem : Mem)
    (h : (a4 ≤ a10 → (XI l M_L_ahead G P mem 397 [(0, .ref (gA G 0)), (2, .long a2), (5, .int a5), (6, .int a6), (8, .int a8), (9, .int a9)] [])) ∧ (¬ a4 ≤ a10 → ((a9 = 0 → (XI l M_L_ahead G P mem 397 [(0, .ref (gA G 0)), (2, .long a2), (5, .int a5), (6, .int a6), (8, .int a8), (9, .int a9)] [])) ∧ (¬ a9 = 0 → (XI l M_L_ahead G P mem 242 [(0, .ref (gA G 0)), (2, .long a2), (4, .int a4), (5, .int a5), (6, .int a6), (7, .int a7), (8, .int a8), (9, .int a9), (10, .int a10), (11, .int 0)] []))))) :
    XI l M_L_ahead G P mem 227 [(0, .ref (gA G 0)), (2, .long a2), (4, .int a4), (5, .int a5), (6, .int a6), (7, .int a7), (8, .int a8), (9, .int a9), (10, .int a10)] [] := by
  refine x_iload (pc := 227) dL_ahead_227 8 rfl ?_
  refine x_iload (pc := 229) dL_ahead_229 2 rfl ?_
  refine x_icmp_ge (pc := 231) (tgt := 397) dL_ahead_231 (by decide) (fun c1 => ?_) (fun c1 => ?_)
  · have h := h.1 c1
    exact x_sub [0, 1, 3, 4, 6, 7] rfl h
  · have h := h.2 c1
    refine x_iload (pc := 234) dL_ahead_234 7 rfl ?_
    refine x_if_eq (pc := 236) (tgt := 397) dL_ahead_236 (by decide) (fun c2 => ?_) (fun c2 => ?_)
    · have h := h.1 c2
      exact x_sub [0, 1, 3, 4, 6, 7] rfl h
    · have h := h.2 c2
      refine x_iconst (pc := 239) (v := 0) dL_ahead_239 (by decide) ?_
      refine x_istore (pc := 240) dL_ahead_240 (by decide) rfl ?_
      exact x_sub [1, 2, 3, 4, 5, 6, 7, 8, 9, 0] rfl h
set_option maxRecDepth 100000 in
set_option maxHeartbeats 4000000 in
theorem t_L_ahead_242 {l : Launch} {G : Gx} {P : Int32 → Mem → Prop} (hG : Mn G) (a2 : Int64) (a4 : Int32) (a5 : Int32) (a6 : Int32) (a7 : Int32) (a8 : Int32) (a9 : Int32) (a10 : Int32) (a11 : Int32) (mem : Mem)
    (h : (a10 ≤ a11 → (XI l M_L_ahead G P mem 391 [(0, .ref (gA G 0)), (2, .long a2), (4, .int a4), (5, .int a5), (6, .int a6), (7, .int a7), (8, .int a8), (9, .int a9), (10, .int a10)] [])) ∧ (¬ a10 ≤ a11 → ((a9 = 0 → (XI l M_L_ahead G P mem 391 [(0, .ref (gA G 0)), (2, .long a2), (4, .int a4), (5, .int a5), (6, .int a6), (7, .int a7), (8, .int a8), (9, .int a9), (10, .int a10)] [])) ∧ (¬ a9 = 0 → (∃ Q3 : Int32 → Mem → Prop, CtI l M_X6_edgeWeight G [.ref (gA G 0), .int a10, .int a11] mem Q3 ∧ ∀ (r5 : Int32) (m6 : Mem), Q3 r5 m6 → ((r5 ≤ 0 → (XI l M_L_ahead G P m6 385 [(0, .ref (gA G 0)), (2, .long a2), (4, .int a4), (5, .int a5), (6, .int a6), (7, .int a7), (8, .int a8), (9, .int a9), (10, .int a10), (11, .int a11)] [])) ∧ (¬ r5 ≤ 0 → (∃ Q9 : Int32 → Mem → Prop, CtI l M_X6_distance G [.ref (gA G 0), .int a6, .int a7] m6 Q9 ∧ ∀ (r11 : Int32) (m12 : Mem), Q9 r11 m12 → (∃ Q14 : Int32 → Mem → Prop, CtI l M_X6_setEdgeWeight G [.ref (gA G 0), .int a10, .int a11, .int a8] m12 Q14 ∧ ∀ (r16 : Int32) (m17 : Mem), Q14 r16 m17 → ((¬ r16 = r5 → (XI l M_L_ahead G P m17 324 [(0, .ref (gA G 0)), (2, .long a2), (4, .int a4), (5, .int a5), (6, .int a6), (7, .int a7), (8, .int a8), (10, .int a10), (11, .int a11), (12, .int r5), (13, .int r11)] [])) ∧ (r16 = r5 → (∃ Q20 : Int32 → Mem → Prop, CtI l M_X6_edgeWeight G [.ref (gA G 0), .int a11, .int a10] m17 Q20 ∧ ∀ (r22 : Int32) (m23 : Mem), Q20 r22 m23 → ((¬ r22 = a8 → (XI l M_L_ahead G P m23 324 [(0, .ref (gA G 0)), (2, .long a2), (4, .int a4), (5, .int a5), (6, .int a6), (7, .int a7), (8, .int a8), (10, .int a10), (11, .int a11), (12, .int r5), (13, .int r11)] [])) ∧ (r22 = a8 → (∃ Q26 : Int32 → Mem → Prop, CtI l M_X6_distance G [.ref (gA G 0), .int a10, .int a11] m23 Q26 ∧ ∀ (r28 : Int32) (m29 : Mem), Q26 r28 m29 → ((¬ r28 = a8 → (XI l M_L_ahead G P m29 324 [(0, .ref (gA G 0)), (2, .long a2), (4, .int a4), (5, .int a5), (6, .int a6), (7, .int a7), (8, .int a8), (10, .int a10), (11, .int a11), (12, .int r5), (13, .int r11)] [])) ∧ (r28 = a8 → (XI l M_L_ahead G P m29 327 [(0, .ref (gA G 0)), (2, .long a2), (4, .int a4), (5, .int a5), (6, .int a6), (7, .int a7), (8, .int a8), (9, .int 1), (10, .int a10), (11, .int a11), (12, .int r5), (13, .int r11)] [])))))))))))))))))) :
    XI l M_L_ahead G P mem 242 [(0, .ref (gA G 0)), (2, .long a2), (4, .int a4), (5, .int a5), (6, .int a6), (7, .int a7), (8, .int a8), (9, .int a9), (10, .int a10), (11, .int a11)] [] := by
  refine x_iload (pc := 242) dL_ahead_242 9 rfl ?_
  refine x_iload (pc := 244) dL_ahead_244 8 rfl ?_
  refine x_icmp_ge (pc := 246) (tgt := 391) dL_ahead_246 (by decide) (fun c1 => ?_) (fun c1 => ?_)
  · have h := h.1 c1
    exact x_sub [0, 1, 2, 3, 4, 5, 6, 7, 8] rfl h
  · have h := h.2 c1
    refine x_iload (pc := 249) dL_ahead_249 7 rfl ?_
    refine x_if_eq (pc := 251) (tgt := 391) dL_ahead_251 (by decide) (fun c2 => ?_) (fun c2 => ?_)
    · have h := h.1 c2
      exact x_sub [0, 1, 2, 3, 4, 5, 6, 7, 8] rfl h
    · have h := h.2 c2
      refine x_aload_n (pc := 254) dL_ahead_254 0 rfl rfl ?_
      refine x_iload (pc := 255) dL_ahead_255 8 rfl ?_
      refine x_iload (pc := 257) dL_ahead_257 9 rfl ?_
      obtain ⟨Q3, hc4, h⟩ := h
      refine x_callVI (pc := 259) 0 hc4 ok_X6_edgeWeight dL_ahead_259 tb_259 ⟨⟨rfl, rfl⟩, ⟨by decide, by decide⟩, by decide, by decide⟩ (mK hG (by decide)) (mc_0 hG _) rfl (As := [.int a10, .int a11]) rfl rfl (Nat.le_of_ble_eq_true rfl) (fun r5 m6 q7 => ?_)
      have h := h r5 m6 q7
      refine x_istore (pc := 262) dL_ahead_262 (by decide) rfl ?_
      refine x_iload (pc := 264) dL_ahead_264 0 rfl ?_
      refine x_if_le (pc := 266) (tgt := 385) dL_ahead_266 (by decide) (fun c8 => ?_) (fun c8 => ?_)
      · have h := h.1 c8
        exact x_sub [1, 2, 3, 4, 5, 6, 7, 8, 9, 10] rfl h
      · have h := h.2 c8
        refine x_aload_n (pc := 269) dL_ahead_269 1 rfl rfl ?_
        refine x_iload (pc := 270) dL_ahead_270 5 rfl ?_
        refine x_iload (pc := 272) dL_ahead_272 6 rfl ?_
        obtain ⟨Q9, hc10, h⟩ := h
        refine x_callVI (pc := 274) 0 hc10 ok_X6_distance dL_ahead_274 tb_356 ⟨⟨rfl, rfl⟩, ⟨by decide, by decide⟩, by decide, by decide⟩ (mK hG (by decide)) (mc_0 hG _) rfl (As := [.int a6, .int a7]) rfl rfl (Nat.le_of_ble_eq_true rfl) (fun r11 m12 q13 => ?_)
        have h := h r11 m12 q13
        refine x_istore (pc := 277) dL_ahead_277 (by decide) rfl ?_
        refine x_aload_n (pc := 279) dL_ahead_279 2 rfl rfl ?_
        refine x_iload (pc := 280) dL_ahead_280 10 rfl ?_
        refine x_iload (pc := 282) dL_ahead_282 11 rfl ?_
        refine x_iload (pc := 284) dL_ahead_284 8 rfl ?_
        obtain ⟨Q14, hc15, h⟩ := h
        refine x_callVI (pc := 286) 0 hc15 ok_X6_setEdgeWeight dL_ahead_286 tb_344 ⟨⟨rfl, rfl⟩, ⟨by decide, by decide⟩, by decide, by decide⟩ (mK hG (by decide)) (mc_0 hG _) rfl (As := [.int a10, .int a11, .int a8]) rfl rfl (Nat.le_of_ble_eq_true rfl) (fun r16 m17 q18 => ?_)
        have h := h r16 m17 q18
        refine x_iload (pc := 289) dL_ahead_289 1 rfl ?_
        refine x_icmp_ne (pc := 291) (tgt := 324) dL_ahead_291 (by decide) (fun c19 => ?_) (fun c19 => ?_)
        · have h := h.1 c19
          exact x_sub [2, 3, 4, 5, 6, 7, 8, 10, 11, 1, 0] rfl h
        · have h := h.2 c19
          refine x_aload_n (pc := 294) dL_ahead_294 2 rfl rfl ?_
          refine x_iload (pc := 295) dL_ahead_295 11 rfl ?_
          refine x_iload (pc := 297) dL_ahead_297 10 rfl ?_
          obtain ⟨Q20, hc21, h⟩ := h
          refine x_callVI (pc := 299) 0 hc21 ok_X6_edgeWeight dL_ahead_299 tb_259 ⟨⟨rfl, rfl⟩, ⟨by decide, by decide⟩, by decide, by decide⟩ (mK hG (by decide)) (mc_0 hG _) rfl (As := [.int a11, .int a10]) rfl rfl (Nat.le_of_ble_eq_true rfl) (fun r22 m23 q24 => ?_)
          have h := h r22 m23 q24
          refine x_iload (pc := 302) dL_ahead_302 8 rfl ?_
          refine x_icmp_ne (pc := 304) (tgt := 324) dL_ahead_304 (by decide) (fun c25 => ?_) (fun c25 => ?_)
          · have h := h.1 c25
            exact x_sub [2, 3, 4, 5, 6, 7, 8, 10, 11, 1, 0] rfl h
          · have h := h.2 c25
            refine x_aload_n (pc := 307) dL_ahead_307 2 rfl rfl ?_
            refine x_iload (pc := 308) dL_ahead_308 10 rfl ?_
            refine x_iload (pc := 310) dL_ahead_310 11 rfl ?_
            obtain ⟨Q26, hc27, h⟩ := h
            refine x_callVI (pc := 312) 0 hc27 ok_X6_distance dL_ahead_312 tb_356 ⟨⟨rfl, rfl⟩, ⟨by decide, by decide⟩, by decide, by decide⟩ (mK hG (by decide)) (mc_0 hG _) rfl (As := [.int a10, .int a11]) rfl rfl (Nat.le_of_ble_eq_true rfl) (fun r28 m29 q30 => ?_)
            have h := h r28 m29 q30
            refine x_iload (pc := 315) dL_ahead_315 8 rfl ?_
            refine x_icmp_ne (pc := 317) (tgt := 324) dL_ahead_317 (by decide) (fun c31 => ?_) (fun c31 => ?_)
            · have h := h.1 c31
              exact x_sub [2, 3, 4, 5, 6, 7, 8, 10, 11, 1, 0] rfl h
            · have h := h.2 c31
              refine x_iconst (pc := 320) (v := 1) dL_ahead_320 (by decide) ?_
              refine x_goto (pc := 321) (tgt := 325) dL_ahead_321 (by decide) ?_
              refine x_istore (pc := 325) dL_ahead_325 (by decide) rfl ?_
              exact x_sub [3, 4, 5, 6, 7, 8, 9, 0, 10, 11, 2, 1] rfl h
set_option maxRecDepth 100000 in
set_option maxHeartbeats 4000000 in
theorem t_L_ahead_324 {l : Launch} {G : Gx} {P : Int32 → Mem → Prop} (hG : Mn G) (a2 : Int64) (a4 : Int32) (a5 : Int32) (a6 : Int32) (a7 : Int32) (a8 : Int32) (a10 : Int32) (a11 : Int32) (a12 : Int32) (a13 : Int32) (mem : Mem)
    (h : XI l M_L_ahead G P mem 327 [(0, .ref (gA G 0)), (2, .long a2), (4, .int a4), (5, .int a5), (6, .int a6), (7, .int a7), (8, .int a8), (9, .int 0), (10, .int a10), (11, .int a11), (12, .int a12), (13, .int a13)] []) :
    XI l M_L_ahead G P mem 324 [(0, .ref (gA G 0)), (2, .long a2), (4, .int a4), (5, .int a5), (6, .int a6), (7, .int a7), (8, .int a8), (10, .int a10), (11, .int a11), (12, .int a12), (13, .int a13)] [] := by
  refine x_iconst (pc := 324) (v := 0) dL_ahead_324 (by decide) ?_
  refine x_istore (pc := 325) dL_ahead_325 (by decide) rfl ?_
  exact x_sub [1, 2, 3, 4, 5, 6, 7, 0, 8, 9, 10, 11] rfl h
set_option maxRecDepth 100000 in
set_option maxHeartbeats 4000000 in
theorem t_L_ahead_327 {l : Launch} {G : Gx} {P : Int32 → Mem → Prop} (hG : Mn G) (a2 : Int64) (a4 : Int32) (a5 : Int32) (a6 : Int32) (a7 : Int32) (a8 : Int32) (a9 : Int32) (a10 : Int32) (a11 : Int32) (a12 : Int32) (a13 : Int32) (mem : Mem)
    (h : ∃ Q1 : Int32 → Mem → Prop, CtI l M_X6_distance G [.ref (gA G 0), .int a6, .int a7] mem Q1 ∧ ∀ (r3 : Int32) (m4 : Mem), Q1 r3 m4 → ((a9 = 0 → (XI l M_L_ahead G P m4 382 [(0, .ref (gA G 0)), (2, .long a2), (4, .int a4), (5, .int a5), (6, .int a6), (7, .int a7), (8, .int a8), (10, .int a10), (11, .int a11)] [])) ∧ (¬ a9 = 0 → ((r3 = a13 → (XI l M_L_ahead G P m4 362 [(0, .ref (gA G 0)), (2, .long a2), (4, .int a4), (5, .int a5), (6, .int a6), (7, .int a7), (8, .int a8), (10, .int a10), (11, .int a11)] [])) ∧ (¬ r3 = a13 → ((¬ (r3 - a13) = (a8 - a12) → (XI l M_L_ahead G P m4 382 [(0, .ref (gA G 0)), (2, .long a2), (4, .int a4), (5, .int a5), (6, .int a6), (7, .int a7), (8, .int a8), (10, .int a10), (11, .int a11)] [])) ∧ ((r3 - a13) = (a8 - a12) → (XI l M_L_ahead G P m4 362 [(0, .ref (gA G 0)), (2, .long a2), (4, .int a4), (5, .int a5), (6, .int a6), (7, .int a7), (8, .int a8), (10, .int a10), (11, .int a11)] [])))))))) :
    XI l M_L_ahead G P mem 327 [(0, .ref (gA G 0)), (2, .long a2), (4, .int a4), (5, .int a5), (6, .int a6), (7, .int a7), (8, .int a8), (9, .int a9), (10, .int a10), (11, .int a11), (12, .int a12), (13, .int a13)] [] := by
  refine x_aload_n (pc := 327) dL_ahead_327 0 rfl rfl ?_
  refine x_iload (pc := 328) dL_ahead_328 4 rfl ?_
  refine x_iload (pc := 330) dL_ahead_330 5 rfl ?_
  obtain ⟨Q1, hc2, h⟩ := h
  refine x_callVI (pc := 332) 0 hc2 ok_X6_distance dL_ahead_332 tb_356 ⟨⟨rfl, rfl⟩, ⟨by decide, by decide⟩, by decide, by decide⟩ (mK hG (by decide)) (mc_0 hG _) rfl (As := [.int a6, .int a7]) rfl rfl (Nat.le_of_ble_eq_true rfl) (fun r3 m4 q5 => ?_)
  have h := h r3 m4 q5
  refine x_istore (pc := 335) dL_ahead_335 (by decide) rfl ?_
  refine x_iload (pc := 337) dL_ahead_337 8 rfl ?_
  refine x_if_eq (pc := 339) (tgt := 382) dL_ahead_339 (by decide) (fun c6 => ?_) (fun c6 => ?_)
  · have h := h.1 c6
    exact x_sub [1, 2, 3, 4, 5, 6, 7, 9, 10] rfl h
  · have h := h.2 c6
    refine x_iload (pc := 342) dL_ahead_342 0 rfl ?_
    refine x_iload (pc := 344) dL_ahead_344 12 rfl ?_
    refine x_icmp_eq (pc := 346) (tgt := 362) dL_ahead_346 (by decide) (fun c7 => ?_) (fun c7 => ?_)
    · have h := h.1 c7
      exact x_sub [1, 2, 3, 4, 5, 6, 7, 9, 10] rfl h
    · have h := h.2 c7
      refine x_iload (pc := 349) dL_ahead_349 0 rfl ?_
      refine x_iload (pc := 351) dL_ahead_351 12 rfl ?_
      refine x_isub (pc := 353) dL_ahead_353 ?_
      refine x_iload (pc := 354) dL_ahead_354 7 rfl ?_
      refine x_iload (pc := 356) dL_ahead_356 11 rfl ?_
      refine x_isub (pc := 358) dL_ahead_358 ?_
      refine x_icmp_ne (pc := 359) (tgt := 382) dL_ahead_359 (by decide) (fun c8 => ?_) (fun c8 => ?_)
      · have h := h.1 c8
        exact x_sub [1, 2, 3, 4, 5, 6, 7, 9, 10] rfl h
      · have h := h.2 c8
        exact x_sub [1, 2, 3, 4, 5, 6, 7, 9, 10] rfl h
set_option maxRecDepth 100000 in
set_option maxHeartbeats 4000000 in
theorem t_L_ahead_362 {l : Launch} {G : Gx} {P : Int32 → Mem → Prop} (hG : Mn G) (a2 : Int64) (a4 : Int32) (a5 : Int32) (a6 : Int32) (a7 : Int32) (a8 : Int32) (a10 : Int32) (a11 : Int32) (mem : Mem)
    (h : ∃ Q1 : Int32 → Mem → Prop, CtI l M_X6_undo G [.ref (gA G 0)] mem Q1 ∧ ∀ (r3 : Int32) (m4 : Mem), Q1 r3 m4 → ((r3 < 0 → (XI l M_L_ahead G P m4 382 [(0, .ref (gA G 0)), (2, .long a2), (4, .int a4), (5, .int a5), (6, .int a6), (7, .int a7), (8, .int a8), (10, .int a10), (11, .int a11)] [])) ∧ (¬ r3 < 0 → (∃ Q7 : Int64 → Mem → Prop, CtL l M_L_now G [.ref (gA G 0)] m4 Q7 ∧ ∀ (r9 : Int64) (m10 : Mem), Q7 r9 m10 → ((¬ (lg_cmp r9 a2) = 0 → (XI l M_L_ahead G P m10 382 [(0, .ref (gA G 0)), (2, .long a2), (4, .int a4), (5, .int a5), (6, .int a6), (7, .int a7), (8, .int a8), (10, .int a10), (11, .int a11)] [])) ∧ ((lg_cmp r9 a2) = 0 → (XI l M_L_ahead G P m10 385 [(0, .ref (gA G 0)), (2, .long a2), (4, .int a4), (5, .int a5), (6, .int a6), (7, .int a7), (8, .int a8), (9, .int 1), (10, .int a10), (11, .int a11)] []))))))) :
    XI l M_L_ahead G P mem 362 [(0, .ref (gA G 0)), (2, .long a2), (4, .int a4), (5, .int a5), (6, .int a6), (7, .int a7), (8, .int a8), (10, .int a10), (11, .int a11)] [] := by
  refine x_aload_n (pc := 362) dL_ahead_362 0 rfl rfl ?_
  obtain ⟨Q1, hc2, h⟩ := h
  refine x_callVI (pc := 363) 0 hc2 ok_X6_undo dL_ahead_363 tb_731 ⟨⟨rfl, rfl⟩, ⟨by decide, by decide⟩, by decide, by decide⟩ (mK hG (by decide)) (mc_0 hG _) rfl (As := []) rfl rfl (Nat.le_of_ble_eq_true rfl) (fun r3 m4 q5 => ?_)
  have h := h r3 m4 q5
  refine x_if_lt (pc := 366) (tgt := 382) dL_ahead_366 (by decide) (fun c6 => ?_) (fun c6 => ?_)
  · have h := h.1 c6
    exact x_sub [0, 1, 2, 3, 4, 5, 6, 7, 8] rfl h
  · have h := h.2 c6
    refine x_aload_n (pc := 369) dL_ahead_369 0 rfl rfl ?_
    obtain ⟨Q7, hc8, h⟩ := h
    refine x_callSL (pc := 370) hc8 ok_L_now dL_ahead_370 tb_747 ⟨⟨rfl, rfl⟩, ⟨by decide, by decide⟩, by decide, by decide⟩ rfl rfl (Nat.le_of_ble_eq_true rfl) (fun r9 m10 q11 => ?_)
    have h := h r9 m10 q11
    refine x_lload_n (pc := 373) dL_ahead_373 1 rfl rfl ?_
    refine x_lcmp (pc := 374) dL_ahead_374 ?_
    refine x_if_ne (pc := 375) (tgt := 382) dL_ahead_375 (by decide) (fun c12 => ?_) (fun c12 => ?_)
    · have h := h.1 c12
      exact x_sub [0, 1, 2, 3, 4, 5, 6, 7, 8] rfl h
    · have h := h.2 c12
      refine x_iconst (pc := 378) (v := 1) dL_ahead_378 (by decide) ?_
      refine x_goto (pc := 379) (tgt := 383) dL_ahead_379 (by decide) ?_
      refine x_istore (pc := 383) dL_ahead_383 (by decide) rfl ?_
      exact x_sub [1, 2, 3, 4, 5, 6, 7, 0, 8, 9] rfl h
set_option maxRecDepth 100000 in
set_option maxHeartbeats 4000000 in
theorem t_L_ahead_382 {l : Launch} {G : Gx} {P : Int32 → Mem → Prop} (hG : Mn G) (a2 : Int64) (a4 : Int32) (a5 : Int32) (a6 : Int32) (a7 : Int32) (a8 : Int32) (a10 : Int32) (a11 : Int32) (mem : Mem)
    (h : XI l M_L_ahead G P mem 385 [(0, .ref (gA G 0)), (2, .long a2), (4, .int a4), (5, .int a5), (6, .int a6), (7, .int a7), (8, .int a8), (9, .int 0), (10, .int a10), (11, .int a11)] []) :
    XI l M_L_ahead G P mem 382 [(0, .ref (gA G 0)), (2, .long a2), (4, .int a4), (5, .int a5), (6, .int a6), (7, .int a7), (8, .int a8), (10, .int a10), (11, .int a11)] [] := by
  refine x_iconst (pc := 382) (v := 0) dL_ahead_382 (by decide) ?_
  refine x_istore (pc := 383) dL_ahead_383 (by decide) rfl ?_
  exact x_sub [1, 2, 3, 4, 5, 6, 7, 0, 8, 9] rfl h
set_option maxRecDepth 100000 in
set_option maxHeartbeats 4000000 in
theorem t_L_ahead_385 {l : Launch} {G : Gx} {P : Int32 → Mem → Prop} (hG : Mn G) (a2 : Int64) (a4 : Int32) (a5 : Int32) (a6 : Int32) (a7 : Int32) (a8 : Int32) (a9 : Int32) (a10 : Int32) (a11 : Int32) (mem : Mem)
    (h : XI l M_L_ahead G P mem 242 [(0, .ref (gA G 0)), (2, .long a2), (4, .int a4), (5, .int a5), (6, .int a6), (7, .int a7), (8, .int a8), (9, .int a9), (10, .int a10), (11, .int (a11 + 1))] []) :
    XI l M_L_ahead G P mem 385 [(0, .ref (gA G 0)), (2, .long a2), (4, .int a4), (5, .int a5), (6, .int a6), (7, .int a7), (8, .int a8), (9, .int a9), (10, .int a10), (11, .int a11)] [] := by
  refine x_iinc (pc := 385) (v := (a11 + 1)) dL_ahead_385 (k := 9) rfl rfl (by decide) rfl ?_
  refine x_goto (pc := 388) (tgt := 242) dL_ahead_388 (by decide) ?_
  exact x_sub [1, 2, 3, 4, 5, 6, 7, 8, 9, 0] rfl h
set_option maxRecDepth 100000 in
set_option maxHeartbeats 4000000 in
theorem t_L_ahead_391 {l : Launch} {G : Gx} {P : Int32 → Mem → Prop} (hG : Mn G) (a2 : Int64) (a4 : Int32) (a5 : Int32) (a6 : Int32) (a7 : Int32) (a8 : Int32) (a9 : Int32) (a10 : Int32) (mem : Mem)
    (h : XI l M_L_ahead G P mem 227 [(0, .ref (gA G 0)), (2, .long a2), (4, .int a4), (5, .int a5), (6, .int a6), (7, .int a7), (8, .int a8), (9, .int a9), (10, .int (a10 + 1))] []) :
    XI l M_L_ahead G P mem 391 [(0, .ref (gA G 0)), (2, .long a2), (4, .int a4), (5, .int a5), (6, .int a6), (7, .int a7), (8, .int a8), (9, .int a9), (10, .int a10)] [] := by
  refine x_iinc (pc := 391) (v := (a10 + 1)) dL_ahead_391 (k := 8) rfl rfl (by decide) rfl ?_
  refine x_goto (pc := 394) (tgt := 227) dL_ahead_394 (by decide) ?_
  exact x_sub [1, 2, 3, 4, 5, 6, 7, 8, 0] rfl h
set_option maxRecDepth 100000 in
set_option maxHeartbeats 4000000 in
theorem t_L_ahead_397 {l : Launch} {G : Gx} {P : Int32 → Mem → Prop} (hG : Mn G) (a2 : Int64) (a5 : Int32) (a6 : Int32) (a8 : Int32) (a9 : Int32) (mem : Mem)
    (h : ∃ Q1 : Int32 → Mem → Prop, CtI l M_X6_vertexWeight G [.ref (gA G 0), .int a6] mem Q1 ∧ ∀ (r3 : Int32) (m4 : Mem), Q1 r3 m4 → ((a9 = 0 → (XI l M_L_ahead G P m4 454 [(0, .ref (gA G 0)), (2, .long a2), (5, .int a5)] [])) ∧ (¬ a9 = 0 → (∃ Q7 : Int32 → Mem → Prop, CtI l M_X6_setVertexWeight G [.ref (gA G 0), .int a6, .int a8] m4 Q7 ∧ ∀ (r9 : Int32) (m10 : Mem), Q7 r9 m10 → ((¬ r9 = r3 → (XI l M_L_ahead G P m10 454 [(0, .ref (gA G 0)), (2, .long a2), (5, .int a5)] [])) ∧ (r9 = r3 → (∃ Q13 : Int32 → Mem → Prop, CtI l M_X6_vertexWeight G [.ref (gA G 0), .int a6] m10 Q13 ∧ ∀ (r15 : Int32) (m16 : Mem), Q13 r15 m16 → ((¬ r15 = a8 → (XI l M_L_ahead G P m16 454 [(0, .ref (gA G 0)), (2, .long a2), (5, .int a5)] [])) ∧ (r15 = a8 → (∃ Q19 : Int32 → Mem → Prop, CtI l M_X6_undo G [.ref (gA G 0)] m16 Q19 ∧ ∀ (r21 : Int32) (m22 : Mem), Q19 r21 m22 → ((r21 < 0 → (XI l M_L_ahead G P m22 454 [(0, .ref (gA G 0)), (2, .long a2), (5, .int a5)] [])) ∧ (¬ r21 < 0 → (∃ Q25 : Int64 → Mem → Prop, CtL l M_L_now G [.ref (gA G 0)] m22 Q25 ∧ ∀ (r27 : Int64) (m28 : Mem), Q25 r27 m28 → ((¬ (lg_cmp r27 a2) = 0 → (XI l M_L_ahead G P m28 454 [(0, .ref (gA G 0)), (2, .long a2), (5, .int a5)] [])) ∧ ((lg_cmp r27 a2) = 0 → (XI l M_L_ahead G P m28 457 [(0, .ref (gA G 0)), (2, .long a2), (5, .int a5), (9, .int 1)] [])))))))))))))))) :
    XI l M_L_ahead G P mem 397 [(0, .ref (gA G 0)), (2, .long a2), (5, .int a5), (6, .int a6), (8, .int a8), (9, .int a9)] [] := by
  refine x_aload_n (pc := 397) dL_ahead_397 0 rfl rfl ?_
  refine x_iload (pc := 398) dL_ahead_398 3 rfl ?_
  obtain ⟨Q1, hc2, h⟩ := h
  refine x_callVI (pc := 400) 0 hc2 ok_X6_vertexWeight dL_ahead_400 tb_234 ⟨⟨rfl, rfl⟩, ⟨by decide, by decide⟩, by decide, by decide⟩ (mK hG (by decide)) (mc_0 hG _) rfl (As := [.int a6]) rfl rfl (Nat.le_of_ble_eq_true rfl) (fun r3 m4 q5 => ?_)
  have h := h r3 m4 q5
  refine x_istore (pc := 403) dL_ahead_403 (by decide) rfl ?_
  refine x_iload (pc := 405) dL_ahead_405 6 rfl ?_
  refine x_if_eq (pc := 407) (tgt := 454) dL_ahead_407 (by decide) (fun c6 => ?_) (fun c6 => ?_)
  · have h := h.1 c6
    exact x_sub [1, 2, 3] rfl h
  · have h := h.2 c6
    refine x_aload_n (pc := 410) dL_ahead_410 1 rfl rfl ?_
    refine x_iload (pc := 411) dL_ahead_411 4 rfl ?_
    refine x_iload (pc := 413) dL_ahead_413 5 rfl ?_
    obtain ⟨Q7, hc8, h⟩ := h
    refine x_callVI (pc := 415) 0 hc8 ok_X6_setVertexWeight dL_ahead_415 tb_348 ⟨⟨rfl, rfl⟩, ⟨by decide, by decide⟩, by decide, by decide⟩ (mK hG (by decide)) (mc_0 hG _) rfl (As := [.int a6, .int a8]) rfl rfl (Nat.le_of_ble_eq_true rfl) (fun r9 m10 q11 => ?_)
    have h := h r9 m10 q11
    refine x_iload (pc := 418) dL_ahead_418 0 rfl ?_
    refine x_icmp_ne (pc := 420) (tgt := 454) dL_ahead_420 (by decide) (fun c12 => ?_) (fun c12 => ?_)
    · have h := h.1 c12
      exact x_sub [1, 2, 3] rfl h
    · have h := h.2 c12
      refine x_aload_n (pc := 423) dL_ahead_423 1 rfl rfl ?_
      refine x_iload (pc := 424) dL_ahead_424 4 rfl ?_
      obtain ⟨Q13, hc14, h⟩ := h
      refine x_callVI (pc := 426) 0 hc14 ok_X6_vertexWeight dL_ahead_426 tb_234 ⟨⟨rfl, rfl⟩, ⟨by decide, by decide⟩, by decide, by decide⟩ (mK hG (by decide)) (mc_0 hG _) rfl (As := [.int a6]) rfl rfl (Nat.le_of_ble_eq_true rfl) (fun r15 m16 q17 => ?_)
      have h := h r15 m16 q17
      refine x_iload (pc := 429) dL_ahead_429 5 rfl ?_
      refine x_icmp_ne (pc := 431) (tgt := 454) dL_ahead_431 (by decide) (fun c18 => ?_) (fun c18 => ?_)
      · have h := h.1 c18
        exact x_sub [1, 2, 3] rfl h
      · have h := h.2 c18
        refine x_aload_n (pc := 434) dL_ahead_434 1 rfl rfl ?_
        obtain ⟨Q19, hc20, h⟩ := h
        refine x_callVI (pc := 435) 0 hc20 ok_X6_undo dL_ahead_435 tb_731 ⟨⟨rfl, rfl⟩, ⟨by decide, by decide⟩, by decide, by decide⟩ (mK hG (by decide)) (mc_0 hG _) rfl (As := []) rfl rfl (Nat.le_of_ble_eq_true rfl) (fun r21 m22 q23 => ?_)
        have h := h r21 m22 q23
        refine x_if_lt (pc := 438) (tgt := 454) dL_ahead_438 (by decide) (fun c24 => ?_) (fun c24 => ?_)
        · have h := h.1 c24
          exact x_sub [1, 2, 3] rfl h
        · have h := h.2 c24
          refine x_aload_n (pc := 441) dL_ahead_441 1 rfl rfl ?_
          obtain ⟨Q25, hc26, h⟩ := h
          refine x_callSL (pc := 442) hc26 ok_L_now dL_ahead_442 tb_747 ⟨⟨rfl, rfl⟩, ⟨by decide, by decide⟩, by decide, by decide⟩ rfl rfl (Nat.le_of_ble_eq_true rfl) (fun r27 m28 q29 => ?_)
          have h := h r27 m28 q29
          refine x_lload_n (pc := 445) dL_ahead_445 2 rfl rfl ?_
          refine x_lcmp (pc := 446) dL_ahead_446 ?_
          refine x_if_ne (pc := 447) (tgt := 454) dL_ahead_447 (by decide) (fun c30 => ?_) (fun c30 => ?_)
          · have h := h.1 c30
            exact x_sub [1, 2, 3] rfl h
          · have h := h.2 c30
            refine x_iconst (pc := 450) (v := 1) dL_ahead_450 (by decide) ?_
            refine x_goto (pc := 451) (tgt := 455) dL_ahead_451 (by decide) ?_
            refine x_istore (pc := 455) dL_ahead_455 (by decide) rfl ?_
            exact x_sub [2, 3, 4, 0] rfl h
set_option maxRecDepth 100000 in
set_option maxHeartbeats 4000000 in
theorem t_L_ahead_454 {l : Launch} {G : Gx} {P : Int32 → Mem → Prop} (hG : Mn G) (a2 : Int64) (a5 : Int32) (mem : Mem)
    (h : XI l M_L_ahead G P mem 457 [(0, .ref (gA G 0)), (2, .long a2), (5, .int a5), (9, .int 0)] []) :
    XI l M_L_ahead G P mem 454 [(0, .ref (gA G 0)), (2, .long a2), (5, .int a5)] [] := by
  refine x_iconst (pc := 454) (v := 0) dL_ahead_454 (by decide) ?_
  refine x_istore (pc := 455) dL_ahead_455 (by decide) rfl ?_
  exact x_sub [1, 2, 3, 0] rfl h
set_option maxRecDepth 100000 in
set_option maxHeartbeats 4000000 in
theorem t_L_ahead_457 {l : Launch} {G : Gx} {P : Int32 → Mem → Prop} (hG : Mn G) (a2 : Int64) (a5 : Int32) (a9 : Int32) (mem : Mem)
    (h : (a9 = 0 → (XI l M_L_ahead G P mem 494 [] [])) ∧ (¬ a9 = 0 → (∃ Q2 : Int32 → Mem → Prop, CtI l M_X6_restore G [.ref (gA G 0), .int 1] mem Q2 ∧ ∀ (r4 : Int32) (m5 : Mem), Q2 r4 m5 → ((¬ r4 = a5 → (XI l M_L_ahead G P m5 494 [] [])) ∧ (r4 = a5 → (∃ Q8 : Int64 → Mem → Prop, CtL l M_L_now G [.ref (gA G 0)] m5 Q8 ∧ ∀ (r10 : Int64) (m11 : Mem), Q8 r10 m11 → ((¬ (lg_cmp r10 a2) = 0 → (XI l M_L_ahead G P m11 494 [] [])) ∧ ((lg_cmp r10 a2) = 0 → (∃ Q14 : Int32 → Mem → Prop, CtI l M_X6_undo G [.ref (gA G 0)] m11 Q14 ∧ ∀ (r16 : Int32) (m17 : Mem), Q14 r16 m17 → ((¬ r16 = (-3) → (XI l M_L_ahead G P m17 494 [] [])) ∧ (r16 = (-3) → (P 1 m17)))))))))))) :
    XI l M_L_ahead G P mem 457 [(0, .ref (gA G 0)), (2, .long a2), (5, .int a5), (9, .int a9)] [] := by
  refine x_iload (pc := 457) dL_ahead_457 3 rfl ?_
  refine x_if_eq (pc := 459) (tgt := 494) dL_ahead_459 (by decide) (fun c1 => ?_) (fun c1 => ?_)
  · have h := h.1 c1
    exact x_sub [] rfl h
  · have h := h.2 c1
    refine x_aload_n (pc := 462) dL_ahead_462 0 rfl rfl ?_
    refine x_iconst (pc := 463) (v := 1) dL_ahead_463 (by decide) ?_
    obtain ⟨Q2, hc3, h⟩ := h
    refine x_callVI (pc := 464) 0 hc3 ok_X6_restore dL_ahead_464 tb_624 ⟨⟨rfl, rfl⟩, ⟨by decide, by decide⟩, by decide, by decide⟩ (mK hG (by decide)) (mc_0 hG _) rfl (As := [.int 1]) rfl rfl (Nat.le_of_ble_eq_true rfl) (fun r4 m5 q6 => ?_)
    have h := h r4 m5 q6
    refine x_iload (pc := 467) dL_ahead_467 2 rfl ?_
    refine x_icmp_ne (pc := 469) (tgt := 494) dL_ahead_469 (by decide) (fun c7 => ?_) (fun c7 => ?_)
    · have h := h.1 c7
      exact x_sub [] rfl h
    · have h := h.2 c7
      refine x_aload_n (pc := 472) dL_ahead_472 0 rfl rfl ?_
      obtain ⟨Q8, hc9, h⟩ := h
      refine x_callSL (pc := 473) hc9 ok_L_now dL_ahead_473 tb_747 ⟨⟨rfl, rfl⟩, ⟨by decide, by decide⟩, by decide, by decide⟩ rfl rfl (Nat.le_of_ble_eq_true rfl) (fun r10 m11 q12 => ?_)
      have h := h r10 m11 q12
      refine x_lload_n (pc := 476) dL_ahead_476 1 rfl rfl ?_
      refine x_lcmp (pc := 477) dL_ahead_477 ?_
      refine x_if_ne (pc := 478) (tgt := 494) dL_ahead_478 (by decide) (fun c13 => ?_) (fun c13 => ?_)
      · have h := h.1 c13
        exact x_sub [] rfl h
      · have h := h.2 c13
        refine x_aload_n (pc := 481) dL_ahead_481 0 rfl rfl ?_
        obtain ⟨Q14, hc15, h⟩ := h
        refine x_callVI (pc := 482) 0 hc15 ok_X6_undo dL_ahead_482 tb_731 ⟨⟨rfl, rfl⟩, ⟨by decide, by decide⟩, by decide, by decide⟩ (mK hG (by decide)) (mc_0 hG _) rfl (As := []) rfl rfl (Nat.le_of_ble_eq_true rfl) (fun r16 m17 q18 => ?_)
        have h := h r16 m17 q18
        refine x_bipush (pc := 485) (v := (-3)) dL_ahead_485 (by decide) ?_
        refine x_icmp_ne (pc := 487) (tgt := 494) dL_ahead_487 (by decide) (fun c19 => ?_) (fun c19 => ?_)
        · have h := h.1 c19
          exact x_sub [] rfl h
        · have h := h.2 c19
          refine x_iconst (pc := 490) (v := 1) dL_ahead_490 (by decide) ?_
          refine x_goto (pc := 491) (tgt := 495) dL_ahead_491 (by decide) ?_
          exact x_endZ (pc := 495) dL_ahead_495 rfl (Or.inr rfl) h
set_option maxRecDepth 100000 in
set_option maxHeartbeats 4000000 in
theorem t_L_ahead_494 {l : Launch} {G : Gx} {P : Int32 → Mem → Prop} (hG : Mn G)  (mem : Mem)
    (h : P 0 mem) :
    XI l M_L_ahead G P mem 494 [] [] := by
  refine x_iconst (pc := 494) (v := 0) dL_ahead_494 (by decide) ?_
  exact x_endZ (pc := 495) dL_ahead_495 rfl (Or.inl rfl) h
