set_option maxRecDepth 100000 in
set_option maxHeartbeats 4000000 in
theorem t_L_vertices_0 {l : Launch} {G : Gx} {P : Int32 → Mem → Prop} (hG : Mn G)  (mem : Mem)
    (h : XI l M_L_vertices G P mem 2 [(0, .ref (gA G 0)), (1, .int 0)] []) :
    XI l M_L_vertices G P mem 0 [(0, .ref (gA G 0))] [] := by
  refine x_iconst (pc := 0) (v := 0) dL_vertices_0 (by decide) ?_
  refine x_istore_n (pc := 1) dL_vertices_1 rfl (by decide) rfl ?_
  exact x_sub [1, 0] rfl h
set_option maxRecDepth 100000 in
set_option maxHeartbeats 4000000 in
theorem t_L_vertices_2 {l : Launch} {G : Gx} {P : Int32 → Mem → Prop} (hG : Mn G) (a1 : Int32) (mem : Mem)
    (h : ∃ Q1 : Int32 → Mem → Prop, CtI l M_X6_vertexWeight G [.ref (gA G 0), .int a1] mem Q1 ∧ ∀ (r3 : Int32) (m4 : Mem), Q1 r3 m4 → ((r3 < 0 → (P a1 m4)) ∧ (¬ r3 < 0 → (XI l M_L_vertices G P m4 2 [(0, .ref (gA G 0)), (1, .int (a1 + 1))] [])))) :
    XI l M_L_vertices G P mem 2 [(0, .ref (gA G 0)), (1, .int a1)] [] := by
  refine x_aload_n (pc := 2) dL_vertices_2 0 rfl rfl ?_
  refine x_iload_n (pc := 3) dL_vertices_3 1 rfl rfl ?_
  obtain ⟨Q1, hc2, h⟩ := h
  refine x_callVI (pc := 4) 0 hc2 ok_X6_vertexWeight dL_vertices_4 tb_234 ⟨⟨rfl, rfl⟩, ⟨by decide, by decide⟩, by decide, by decide⟩ (mK hG (by decide)) (mc_0 hG _) rfl (As := [.int a1]) rfl rfl (Nat.le_of_ble_eq_true rfl) (fun r3 m4 q5 => ?_)
  have h := h r3 m4 q5
  refine x_if_lt (pc := 7) (tgt := 16) dL_vertices_7 (by decide) (fun c6 => ?_) (fun c6 => ?_)
  · have h := h.1 c6
    refine x_iload_n (pc := 16) dL_vertices_16 1 rfl rfl ?_
    exact x_endI (pc := 17) dL_vertices_17 rfl h
  · have h := h.2 c6
    refine x_iinc (pc := 10) (v := (a1 + 1)) dL_vertices_10 (k := 1) rfl rfl (by decide) rfl ?_
    refine x_goto (pc := 13) (tgt := 2) dL_vertices_13 (by decide) ?_
    exact x_sub [1, 0] rfl h
set_option maxRecDepth 100000 in
set_option maxHeartbeats 4000000 in
theorem t_L_two_0 {l : Launch} {G : Gx} {P : Int32 → Mem → Prop} (hG : Mn G) (a1 : Int32) (mem : Mem)
    (h : ∃ Q1 : Int32 → Mem → Prop, CtI l M_X6_append G [.ref (gA G 0), .int (48 + (a1 / 10))] mem Q1 ∧ ∀ (r3 : Int32) (m4 : Mem), Q1 r3 m4 → (∃ Q6 : Int32 → Mem → Prop, CtI l M_X6_append G [.ref (gA G 0), .int (48 + (a1 - a1 / 10 * 10))] m4 Q6 ∧ ∀ (r8 : Int32) (m9 : Mem), Q6 r8 m9 → (P (r3 + r8) m9))) :
    XI l M_L_two G P mem 0 [(0, .ref (gA G 0)), (1, .int a1)] [] := by
  refine x_aload_n (pc := 0) dL_two_0 0 rfl rfl ?_
  refine x_bipush (pc := 1) (v := 48) dL_two_1 (by decide) ?_
  refine x_iload_n (pc := 3) dL_two_3 1 rfl rfl ?_
  refine x_bipush (pc := 4) (v := 10) dL_two_4 (by decide) ?_
  refine x_idiv (pc := 6) dL_two_6 (by decide) ?_
  refine x_iadd (pc := 7) dL_two_7 ?_
  obtain ⟨Q1, hc2, h⟩ := h
  refine x_callVI (pc := 8) 0 hc2 ok_X6_append dL_two_8 tb_247 ⟨⟨rfl, rfl⟩, ⟨by decide, by decide⟩, by decide, by decide⟩ (mK hG (by decide)) (mc_0 hG _) rfl (As := [.int (48 + (a1 / 10))]) rfl rfl (Nat.le_of_ble_eq_true rfl) (fun r3 m4 q5 => ?_)
  have h := h r3 m4 q5
  refine x_aload_n (pc := 11) dL_two_11 0 rfl rfl ?_
  refine x_bipush (pc := 12) (v := 48) dL_two_12 (by decide) ?_
  refine x_iload_n (pc := 14) dL_two_14 1 rfl rfl ?_
  refine x_bipush (pc := 15) (v := 10) dL_two_15 (by decide) ?_
  refine x_irem (pc := 17) dL_two_17 (by decide) ?_
  refine x_iadd (pc := 18) dL_two_18 ?_
  obtain ⟨Q6, hc7, h⟩ := h
  refine x_callVI (pc := 19) 0 hc7 ok_X6_append dL_two_19 tb_247 ⟨⟨rfl, rfl⟩, ⟨by decide, by decide⟩, by decide, by decide⟩ (mK hG (by decide)) (mc_0 hG _) rfl (As := [.int (48 + (a1 - a1 / 10 * 10))]) rfl rfl (Nat.le_of_ble_eq_true rfl) (fun r8 m9 q10 => ?_)
  have h := h r8 m9 q10
  refine x_iadd (pc := 22) dL_two_22 ?_
  exact x_endI (pc := 23) dL_two_23 rfl h
set_option maxRecDepth 100000 in
set_option maxHeartbeats 4000000 in
theorem t_L_now_0 {l : Launch} {G : Gx} {P : Int64 → Mem → Prop} (hG : Mn G)  (mem : Mem)
    (h : XL l M_L_now G P mem 4 [(0, .ref (gA G 0)), (1, .long 1), (3, .int 0)] []) :
    XL l M_L_now G P mem 0 [(0, .ref (gA G 0))] [] := by
  refine x_lconst (pc := 0) (v := 1) dL_now_0 rfl ?_
  refine x_lstore_n (pc := 1) dL_now_1 rfl (by decide) rfl ?_
  refine x_iconst (pc := 2) (v := 0) dL_now_2 (by decide) ?_
  refine x_istore_n (pc := 3) dL_now_3 rfl (by decide) rfl ?_
  exact x_sub [2, 1, 0] rfl h
set_option maxRecDepth 100000 in
set_option maxHeartbeats 4000000 in
theorem t_L_now_4 {l : Launch} {G : Gx} {P : Int64 → Mem → Prop} (hG : Mn G) (a1 : Int64) (a3 : Int32) (mem : Mem)
    (h : (12 ≤ a3 → (P a1 mem)) ∧ (¬ 12 ≤ a3 → (∃ Q2 : Int32 → Mem → Prop, CtI l M_X6_vertexWeight G [.ref (gA G 0), .int a3] mem Q2 ∧ ∀ (r4 : Int32) (m5 : Mem), Q2 r4 m5 → (XL l M_L_now G P m5 30 [(0, .ref (gA G 0)), (1, .long (((1009 * a1) - (1009 * a1) / 1000000007 * 1000000007) + ((r4 : Int32).toInt64))), (3, .int a3), (4, .int 0)] [])))) :
    XL l M_L_now G P mem 4 [(0, .ref (gA G 0)), (1, .long a1), (3, .int a3)] [] := by
  refine x_iload_n (pc := 4) dL_now_4 2 rfl rfl ?_
  refine x_bipush (pc := 5) (v := 12) dL_now_5 (by decide) ?_
  refine x_icmp_ge (pc := 7) (tgt := 67) dL_now_7 (by decide) (fun c1 => ?_) (fun c1 => ?_)
  · have h := h.1 c1
    refine x_lload_n (pc := 67) dL_now_67 1 rfl rfl ?_
    exact x_endL (pc := 68) dL_now_68 rfl h
  · have h := h.2 c1
    refine x_ldc2 (pc := 10) (v := 1009) dL_now_10 tb_750 ?_
    refine x_lload_n (pc := 13) dL_now_13 1 rfl rfl ?_
    refine x_lmul (pc := 14) dL_now_14 ?_
    refine x_ldc2 (pc := 15) (v := 1000000007) dL_now_15 tb_751 ?_
    refine x_lrem (pc := 18) dL_now_18 (by decide) ?_
    refine x_aload_n (pc := 19) dL_now_19 0 rfl rfl ?_
    refine x_iload_n (pc := 20) dL_now_20 2 rfl rfl ?_
    obtain ⟨Q2, hc3, h⟩ := h
    refine x_callVI (pc := 21) 0 hc3 ok_X6_vertexWeight dL_now_21 tb_234 ⟨⟨rfl, rfl⟩, ⟨by decide, by decide⟩, by decide, by decide⟩ (mK hG (by decide)) (mc_0 hG _) rfl (As := [.int a3]) rfl rfl (Nat.le_of_ble_eq_true rfl) (fun r4 m5 q6 => ?_)
    have h := h r4 m5 q6
    refine x_i2l (pc := 24) dL_now_24 ?_
    refine x_ladd (pc := 25) dL_now_25 ?_
    refine x_lstore_n (pc := 26) dL_now_26 rfl (by decide) rfl ?_
    refine x_iconst (pc := 27) (v := 0) dL_now_27 (by decide) ?_
    refine x_istore (pc := 28) dL_now_28 (by decide) rfl ?_
    exact x_sub [2, 1, 3, 0] rfl h
set_option maxRecDepth 100000 in
set_option maxHeartbeats 4000000 in
theorem t_L_now_30 {l : Launch} {G : Gx} {P : Int64 → Mem → Prop} (hG : Mn G) (a1 : Int64) (a3 : Int32) (a4 : Int32) (mem : Mem)
    (h : (a3 ≤ a4 → (XL l M_L_now G P mem 4 [(0, .ref (gA G 0)), (1, .long a1), (3, .int (a3 + 1))] [])) ∧ (¬ a3 ≤ a4 → (∃ Q2 : Int32 → Mem → Prop, CtI l M_X6_edgeWeight G [.ref (gA G 0), .int a3, .int a4] mem Q2 ∧ ∀ (r4 : Int32) (m5 : Mem), Q2 r4 m5 → (XL l M_L_now G P m5 30 [(0, .ref (gA G 0)), (1, .long (((113 * a1) - (113 * a1) / 1000000009 * 1000000009) + ((r4 : Int32).toInt64))), (3, .int a3), (4, .int (a4 + 1))] [])))) :
    XL l M_L_now G P mem 30 [(0, .ref (gA G 0)), (1, .long a1), (3, .int a3), (4, .int a4)] [] := by
  refine x_iload (pc := 30) dL_now_30 3 rfl ?_
  refine x_iload_n (pc := 32) dL_now_32 2 rfl rfl ?_
  refine x_icmp_ge (pc := 33) (tgt := 61) dL_now_33 (by decide) (fun c1 => ?_) (fun c1 => ?_)
  · have h := h.1 c1
    refine x_iinc (pc := 61) (v := (a3 + 1)) dL_now_61 (k := 2) rfl rfl (by decide) rfl ?_
    refine x_goto (pc := 64) (tgt := 4) dL_now_64 (by decide) ?_
    exact x_sub [1, 2, 0] rfl h
  · have h := h.2 c1
    refine x_ldc2 (pc := 36) (v := 113) dL_now_36 tb_752 ?_
    refine x_lload_n (pc := 39) dL_now_39 1 rfl rfl ?_
    refine x_lmul (pc := 40) dL_now_40 ?_
    refine x_ldc2 (pc := 41) (v := 1000000009) dL_now_41 tb_753 ?_
    refine x_lrem (pc := 44) dL_now_44 (by decide) ?_
    refine x_aload_n (pc := 45) dL_now_45 0 rfl rfl ?_
    refine x_iload_n (pc := 46) dL_now_46 2 rfl rfl ?_
    refine x_iload (pc := 47) dL_now_47 3 rfl ?_
    obtain ⟨Q2, hc3, h⟩ := h
    refine x_callVI (pc := 49) 0 hc3 ok_X6_edgeWeight dL_now_49 tb_259 ⟨⟨rfl, rfl⟩, ⟨by decide, by decide⟩, by decide, by decide⟩ (mK hG (by decide)) (mc_0 hG _) rfl (As := [.int a3, .int a4]) rfl rfl (Nat.le_of_ble_eq_true rfl) (fun r4 m5 q6 => ?_)
    have h := h r4 m5 q6
    refine x_i2l (pc := 52) dL_now_52 ?_
    refine x_ladd (pc := 53) dL_now_53 ?_
    refine x_lstore_n (pc := 54) dL_now_54 rfl (by decide) rfl ?_
    refine x_iinc (pc := 55) (v := (a4 + 1)) dL_now_55 (k := 3) rfl rfl (by decide) rfl ?_
    refine x_goto (pc := 58) (tgt := 30) dL_now_58 (by decide) ?_
    exact x_sub [2, 1, 3, 0] rfl h
set_option maxRecDepth 100000 in
set_option maxHeartbeats 4000000 in
theorem t_L_errors_0 {l : Launch} {G : Gx} {P : Int32 → Mem → Prop} (hG : Mn G)  (mem : Mem)
    (h : ∃ Q1 : Int32 → Mem → Prop, CtI l M_L_vertices G [.ref (gA G 0)] mem Q1 ∧ ∀ (r3 : Int32) (m4 : Mem), Q1 r3 m4 → (∃ Q6 : Int32 → Mem → Prop, CtI l M_X6_append G [.ref (gA G 0), .int 256] m4 Q6 ∧ ∀ (r8 : Int32) (m9 : Mem), Q6 r8 m9 → ((¬ r8 = (-2) → (XI l M_L_errors G P m9 376 [(0, .ref (gA G 0)), (1, .int r3)] [])) ∧ (r8 = (-2) → (∃ Q12 : Int32 → Mem → Prop, CtI l M_X6_append G [.ref (gA G 0), .int (-1)] m9 Q12 ∧ ∀ (r14 : Int32) (m15 : Mem), Q12 r14 m15 → ((¬ r14 = (-2) → (XI l M_L_errors G P m15 376 [(0, .ref (gA G 0)), (1, .int r3)] [])) ∧ (r14 = (-2) → (∃ Q18 : Int32 → Mem → Prop, CtI l M_X6_vertexWeight G [.ref (gA G 0), .int (-1)] m15 Q18 ∧ ∀ (r20 : Int32) (m21 : Mem), Q18 r20 m21 → ((¬ r20 = (-1) → (XI l M_L_errors G P m21 376 [(0, .ref (gA G 0)), (1, .int r3)] [])) ∧ (r20 = (-1) → (∃ Q24 : Int32 → Mem → Prop, CtI l M_X6_edgeWeight G [.ref (gA G 0), .int r3, .int 0] m21 Q24 ∧ ∀ (r26 : Int32) (m27 : Mem), Q24 r26 m27 → ((¬ r26 = (-1) → (XI l M_L_errors G P m27 376 [(0, .ref (gA G 0)), (1, .int r3)] [])) ∧ (r26 = (-1) → (∃ Q30 : Int32 → Mem → Prop, CtI l M_X6_edgeWeight G [.ref (gA G 0), .int 0, .int (-1)] m27 Q30 ∧ ∀ (r32 : Int32) (m33 : Mem), Q30 r32 m33 → ((¬ r32 = (-1) → (XI l M_L_errors G P m33 376 [(0, .ref (gA G 0)), (1, .int r3)] [])) ∧ (r32 = (-1) → (XI l M_L_errors G P m33 56 [(0, .ref (gA G 0)), (1, .int r3)] []))))))))))))))))) :
    XI l M_L_errors G P mem 0 [(0, .ref (gA G 0))] [] := by
  refine x_aload_n (pc := 0) dL_errors_0 0 rfl rfl ?_
  obtain ⟨Q1, hc2, h⟩ := h
  refine x_callSI (pc := 1) hc2 ok_L_vertices dL_errors_1 tb_231 ⟨⟨rfl, rfl⟩, ⟨by decide, by decide⟩, by decide, by decide⟩ rfl rfl (Nat.le_of_ble_eq_true rfl) (fun r3 m4 q5 => ?_)
  have h := h r3 m4 q5
  refine x_istore_n (pc := 4) dL_errors_4 rfl (by decide) rfl ?_
  refine x_aload_n (pc := 5) dL_errors_5 1 rfl rfl ?_
  refine x_sipush (pc := 6) (v := 256) dL_errors_6 (by decide) ?_
  obtain ⟨Q6, hc7, h⟩ := h
  refine x_callVI (pc := 9) 0 hc7 ok_X6_append dL_errors_9 tb_247 ⟨⟨rfl, rfl⟩, ⟨by decide, by decide⟩, by decide, by decide⟩ (mK hG (by decide)) (mc_0 hG _) rfl (As := [.int 256]) rfl rfl (Nat.le_of_ble_eq_true rfl) (fun r8 m9 q10 => ?_)
  have h := h r8 m9 q10
  refine x_bipush (pc := 12) (v := (-2)) dL_errors_12 (by decide) ?_
  refine x_icmp_ne (pc := 14) (tgt := 376) dL_errors_14 (by decide) (fun c11 => ?_) (fun c11 => ?_)
  · have h := h.1 c11
    exact x_sub [1, 0] rfl h
  · have h := h.2 c11
    refine x_aload_n (pc := 17) dL_errors_17 1 rfl rfl ?_
    refine x_iconst (pc := 18) (v := (-1)) dL_errors_18 (by decide) ?_
    obtain ⟨Q12, hc13, h⟩ := h
    refine x_callVI (pc := 19) 0 hc13 ok_X6_append dL_errors_19 tb_247 ⟨⟨rfl, rfl⟩, ⟨by decide, by decide⟩, by decide, by decide⟩ (mK hG (by decide)) (mc_0 hG _) rfl (As := [.int (-1)]) rfl rfl (Nat.le_of_ble_eq_true rfl) (fun r14 m15 q16 => ?_)
    have h := h r14 m15 q16
    refine x_bipush (pc := 22) (v := (-2)) dL_errors_22 (by decide) ?_
    refine x_icmp_ne (pc := 24) (tgt := 376) dL_errors_24 (by decide) (fun c17 => ?_) (fun c17 => ?_)
    · have h := h.1 c17
      exact x_sub [1, 0] rfl h
    · have h := h.2 c17
      refine x_aload_n (pc := 27) dL_errors_27 1 rfl rfl ?_
      refine x_iconst (pc := 28) (v := (-1)) dL_errors_28 (by decide) ?_
      obtain ⟨Q18, hc19, h⟩ := h
      refine x_callVI (pc := 29) 0 hc19 ok_X6_vertexWeight dL_errors_29 tb_234 ⟨⟨rfl, rfl⟩, ⟨by decide, by decide⟩, by decide, by decide⟩ (mK hG (by decide)) (mc_0 hG _) rfl (As := [.int (-1)]) rfl rfl (Nat.le_of_ble_eq_true rfl) (fun r20 m21 q22 => ?_)
      have h := h r20 m21 q22
      refine x_iconst (pc := 32) (v := (-1)) dL_errors_32 (by decide) ?_
      refine x_icmp_ne (pc := 33) (tgt := 376) dL_errors_33 (by decide) (fun c23 => ?_) (fun c23 => ?_)
      · have h := h.1 c23
        exact x_sub [1, 0] rfl h
      · have h := h.2 c23
        refine x_aload_n (pc := 36) dL_errors_36 1 rfl rfl ?_
        refine x_iload_n (pc := 37) dL_errors_37 0 rfl rfl ?_
        refine x_iconst (pc := 38) (v := 0) dL_errors_38 (by decide) ?_
        obtain ⟨Q24, hc25, h⟩ := h
        refine x_callVI (pc := 39) 0 hc25 ok_X6_edgeWeight dL_errors_39 tb_259 ⟨⟨rfl, rfl⟩, ⟨by decide, by decide⟩, by decide, by decide⟩ (mK hG (by decide)) (mc_0 hG _) rfl (As := [.int r3, .int 0]) rfl rfl (Nat.le_of_ble_eq_true rfl) (fun r26 m27 q28 => ?_)
        have h := h r26 m27 q28
        refine x_iconst (pc := 42) (v := (-1)) dL_errors_42 (by decide) ?_
        refine x_icmp_ne (pc := 43) (tgt := 376) dL_errors_43 (by decide) (fun c29 => ?_) (fun c29 => ?_)
        · have h := h.1 c29
          exact x_sub [1, 0] rfl h
        · have h := h.2 c29
          refine x_aload_n (pc := 46) dL_errors_46 1 rfl rfl ?_
          refine x_iconst (pc := 47) (v := 0) dL_errors_47 (by decide) ?_
          refine x_iconst (pc := 48) (v := (-1)) dL_errors_48 (by decide) ?_
          obtain ⟨Q30, hc31, h⟩ := h
          refine x_callVI (pc := 49) 0 hc31 ok_X6_edgeWeight dL_errors_49 tb_259 ⟨⟨rfl, rfl⟩, ⟨by decide, by decide⟩, by decide, by decide⟩ (mK hG (by decide)) (mc_0 hG _) rfl (As := [.int 0, .int (-1)]) rfl rfl (Nat.le_of_ble_eq_true rfl) (fun r32 m33 q34 => ?_)
          have h := h r32 m33 q34
          refine x_iconst (pc := 52) (v := (-1)) dL_errors_52 (by decide) ?_
          refine x_icmp_ne (pc := 53) (tgt := 376) dL_errors_53 (by decide) (fun c35 => ?_) (fun c35 => ?_)
          · have h := h.1 c35
            exact x_sub [1, 0] rfl h
          · have h := h.2 c35
            exact x_sub [1, 0] rfl h
set_option maxRecDepth 100000 in
set_option maxHeartbeats 4000000 in
theorem t_L_errors_56 {l : Launch} {G : Gx} {P : Int32 → Mem → Prop} (hG : Mn G) (a1 : Int32) (mem : Mem)
    (h : ∃ Q1 : Int32 → Mem → Prop, CtI l M_X6_edgeWeight G [.ref (gA G 0), .int 0, .int 0] mem Q1 ∧ ∀ (r3 : Int32) (m4 : Mem), Q1 r3 m4 → ((¬ r3 = (-9) → (XI l M_L_errors G P m4 376 [(0, .ref (gA G 0)), (1, .int a1)] [])) ∧ (r3 = (-9) → (∃ Q7 : Int32 → Mem → Prop, CtI l M_X6_treeOf G [.ref (gA G 0), .int a1] m4 Q7 ∧ ∀ (r9 : Int32) (m10 : Mem), Q7 r9 m10 → ((¬ r9 = (-1) → (XI l M_L_errors G P m10 376 [(0, .ref (gA G 0)), (1, .int a1)] [])) ∧ (r9 = (-1) → (∃ Q13 : Int32 → Mem → Prop, CtI l M_X6_link G [.ref (gA G 0), .int a1, .int 0, .int 0] m10 Q13 ∧ ∀ (r15 : Int32) (m16 : Mem), Q13 r15 m16 → ((¬ r15 = (-1) → (XI l M_L_errors G P m16 376 [(0, .ref (gA G 0)), (1, .int a1)] [])) ∧ (r15 = (-1) → (∃ Q19 : Int32 → Mem → Prop, CtI l M_X6_link G [.ref (gA G 0), .int 0, .int 0, .int 0] m16 Q19 ∧ ∀ (r21 : Int32) (m22 : Mem), Q19 r21 m22 → ((¬ r21 = (-2) → (XI l M_L_errors G P m22 376 [(0, .ref (gA G 0)), (1, .int a1)] [])) ∧ (r21 = (-2) → (∃ Q25 : Int32 → Mem → Prop, CtI l M_X6_link G [.ref (gA G 0), .int 0, .int 0, .int 100] m22 Q25 ∧ ∀ (r27 : Int32) (m28 : Mem), Q25 r27 m28 → ((¬ r27 = (-2) → (XI l M_L_errors G P m28 376 [(0, .ref (gA G 0)), (1, .int a1)] [])) ∧ (r27 = (-2) → (∃ Q31 : Int32 → Mem → Prop, CtI l M_X6_link G [.ref (gA G 0), .int 0, .int 0, .int 1] m28 Q31 ∧ ∀ (r33 : Int32) (m34 : Mem), Q31 r33 m34 → ((¬ r33 = (-3) → (XI l M_L_errors G P m34 376 [(0, .ref (gA G 0)), (1, .int a1)] [])) ∧ (r33 = (-3) → (XI l M_L_errors G P m34 124 [(0, .ref (gA G 0)), (1, .int a1)] []))))))))))))))))))) :
    XI l M_L_errors G P mem 56 [(0, .ref (gA G 0)), (1, .int a1)] [] := by
  refine x_aload_n (pc := 56) dL_errors_56 0 rfl rfl ?_
  refine x_iconst (pc := 57) (v := 0) dL_errors_57 (by decide) ?_
  refine x_iconst (pc := 58) (v := 0) dL_errors_58 (by decide) ?_
  obtain ⟨Q1, hc2, h⟩ := h
  refine x_callVI (pc := 59) 0 hc2 ok_X6_edgeWeight dL_errors_59 tb_259 ⟨⟨rfl, rfl⟩, ⟨by decide, by decide⟩, by decide, by decide⟩ (mK hG (by decide)) (mc_0 hG _) rfl (As := [.int 0, .int 0]) rfl rfl (Nat.le_of_ble_eq_true rfl) (fun r3 m4 q5 => ?_)
  have h := h r3 m4 q5
  refine x_bipush (pc := 62) (v := (-9)) dL_errors_62 (by decide) ?_
  refine x_icmp_ne (pc := 64) (tgt := 376) dL_errors_64 (by decide) (fun c6 => ?_) (fun c6 => ?_)
  · have h := h.1 c6
    exact x_sub [0, 1] rfl h
  · have h := h.2 c6
    refine x_aload_n (pc := 67) dL_errors_67 0 rfl rfl ?_
    refine x_iload_n (pc := 68) dL_errors_68 1 rfl rfl ?_
    obtain ⟨Q7, hc8, h⟩ := h
    refine x_callVI (pc := 69) 0 hc8 ok_X6_treeOf dL_errors_69 tb_277 ⟨⟨rfl, rfl⟩, ⟨by decide, by decide⟩, by decide, by decide⟩ (mK hG (by decide)) (mc_0 hG _) rfl (As := [.int a1]) rfl rfl (Nat.le_of_ble_eq_true rfl) (fun r9 m10 q11 => ?_)
    have h := h r9 m10 q11
    refine x_iconst (pc := 72) (v := (-1)) dL_errors_72 (by decide) ?_
    refine x_icmp_ne (pc := 73) (tgt := 376) dL_errors_73 (by decide) (fun c12 => ?_) (fun c12 => ?_)
    · have h := h.1 c12
      exact x_sub [0, 1] rfl h
    · have h := h.2 c12
      refine x_aload_n (pc := 76) dL_errors_76 0 rfl rfl ?_
      refine x_iload_n (pc := 77) dL_errors_77 1 rfl rfl ?_
      refine x_iconst (pc := 78) (v := 0) dL_errors_78 (by decide) ?_
      refine x_iconst (pc := 79) (v := 0) dL_errors_79 (by decide) ?_
      obtain ⟨Q13, hc14, h⟩ := h
      refine x_callVI (pc := 80) 0 hc14 ok_X6_link dL_errors_80 tb_308 ⟨⟨rfl, rfl⟩, ⟨by decide, by decide⟩, by decide, by decide⟩ (mK hG (by decide)) (mc_0 hG _) rfl (As := [.int a1, .int 0, .int 0]) rfl rfl (Nat.le_of_ble_eq_true rfl) (fun r15 m16 q17 => ?_)
      have h := h r15 m16 q17
      refine x_iconst (pc := 83) (v := (-1)) dL_errors_83 (by decide) ?_
      refine x_icmp_ne (pc := 84) (tgt := 376) dL_errors_84 (by decide) (fun c18 => ?_) (fun c18 => ?_)
      · have h := h.1 c18
        exact x_sub [0, 1] rfl h
      · have h := h.2 c18
        refine x_aload_n (pc := 87) dL_errors_87 0 rfl rfl ?_
        refine x_iconst (pc := 88) (v := 0) dL_errors_88 (by decide) ?_
        refine x_iconst (pc := 89) (v := 0) dL_errors_89 (by decide) ?_
        refine x_iconst (pc := 90) (v := 0) dL_errors_90 (by decide) ?_
        obtain ⟨Q19, hc20, h⟩ := h
        refine x_callVI (pc := 91) 0 hc20 ok_X6_link dL_errors_91 tb_308 ⟨⟨rfl, rfl⟩, ⟨by decide, by decide⟩, by decide, by decide⟩ (mK hG (by decide)) (mc_0 hG _) rfl (As := [.int 0, .int 0, .int 0]) rfl rfl (Nat.le_of_ble_eq_true rfl) (fun r21 m22 q23 => ?_)
        have h := h r21 m22 q23
        refine x_bipush (pc := 94) (v := (-2)) dL_errors_94 (by decide) ?_
        refine x_icmp_ne (pc := 96) (tgt := 376) dL_errors_96 (by decide) (fun c24 => ?_) (fun c24 => ?_)
        · have h := h.1 c24
          exact x_sub [0, 1] rfl h
        · have h := h.2 c24
          refine x_aload_n (pc := 99) dL_errors_99 0 rfl rfl ?_
          refine x_iconst (pc := 100) (v := 0) dL_errors_100 (by decide) ?_
          refine x_iconst (pc := 101) (v := 0) dL_errors_101 (by decide) ?_
          refine x_bipush (pc := 102) (v := 100) dL_errors_102 (by decide) ?_
          obtain ⟨Q25, hc26, h⟩ := h
          refine x_callVI (pc := 104) 0 hc26 ok_X6_link dL_errors_104 tb_308 ⟨⟨rfl, rfl⟩, ⟨by decide, by decide⟩, by decide, by decide⟩ (mK hG (by decide)) (mc_0 hG _) rfl (As := [.int 0, .int 0, .int 100]) rfl rfl (Nat.le_of_ble_eq_true rfl) (fun r27 m28 q29 => ?_)
          have h := h r27 m28 q29
          refine x_bipush (pc := 107) (v := (-2)) dL_errors_107 (by decide) ?_
          refine x_icmp_ne (pc := 109) (tgt := 376) dL_errors_109 (by decide) (fun c30 => ?_) (fun c30 => ?_)
          · have h := h.1 c30
            exact x_sub [0, 1] rfl h
          · have h := h.2 c30
            refine x_aload_n (pc := 112) dL_errors_112 0 rfl rfl ?_
            refine x_iconst (pc := 113) (v := 0) dL_errors_113 (by decide) ?_
            refine x_iconst (pc := 114) (v := 0) dL_errors_114 (by decide) ?_
            refine x_iconst (pc := 115) (v := 1) dL_errors_115 (by decide) ?_
            obtain ⟨Q31, hc32, h⟩ := h
            refine x_callVI (pc := 116) 0 hc32 ok_X6_link dL_errors_116 tb_308 ⟨⟨rfl, rfl⟩, ⟨by decide, by decide⟩, by decide, by decide⟩ (mK hG (by decide)) (mc_0 hG _) rfl (As := [.int 0, .int 0, .int 1]) rfl rfl (Nat.le_of_ble_eq_true rfl) (fun r33 m34 q35 => ?_)
            have h := h r33 m34 q35
            refine x_bipush (pc := 119) (v := (-3)) dL_errors_119 (by decide) ?_
            refine x_icmp_ne (pc := 121) (tgt := 376) dL_errors_121 (by decide) (fun c36 => ?_) (fun c36 => ?_)
            · have h := h.1 c36
              exact x_sub [0, 1] rfl h
            · have h := h.2 c36
              exact x_sub [0, 1] rfl h
set_option maxRecDepth 100000 in
set_option maxHeartbeats 4000000 in
theorem t_L_errors_124 {l : Launch} {G : Gx} {P : Int32 → Mem → Prop} (hG : Mn G) (a1 : Int32) (mem : Mem)
    (h : ∃ Q1 : Int32 → Mem → Prop, CtI l M_X6_cut G [.ref (gA G 0), .int 0, .int a1] mem Q1 ∧ ∀ (r3 : Int32) (m4 : Mem), Q1 r3 m4 → ((¬ r3 = (-1) → (XI l M_L_errors G P m4 376 [(0, .ref (gA G 0)), (1, .int a1)] [])) ∧ (r3 = (-1) → (∃ Q7 : Int32 → Mem → Prop, CtI l M_X6_cut G [.ref (gA G 0), .int 0, .int 0] m4 Q7 ∧ ∀ (r9 : Int32) (m10 : Mem), Q7 r9 m10 → ((¬ r9 = (-3) → (XI l M_L_errors G P m10 376 [(0, .ref (gA G 0)), (1, .int a1)] [])) ∧ (r9 = (-3) → (∃ Q13 : Int32 → Mem → Prop, CtI l M_X6_setEdgeWeight G [.ref (gA G 0), .int a1, .int 0, .int 0] m10 Q13 ∧ ∀ (r15 : Int32) (m16 : Mem), Q13 r15 m16 → ((¬ r15 = (-1) → (XI l M_L_errors G P m16 376 [(0, .ref (gA G 0)), (1, .int a1)] [])) ∧ (r15 = (-1) → (∃ Q19 : Int32 → Mem → Prop, CtI l M_X6_setEdgeWeight G [.ref (gA G 0), .int 0, .int 0, .int 0] m16 Q19 ∧ ∀ (r21 : Int32) (m22 : Mem), Q19 r21 m22 → ((¬ r21 = (-2) → (XI l M_L_errors G P m22 376 [(0, .ref (gA G 0)), (1, .int a1)] [])) ∧ (r21 = (-2) → (∃ Q25 : Int32 → Mem → Prop, CtI l M_X6_setEdgeWeight G [.ref (gA G 0), .int 0, .int 0, .int 1] m22 Q25 ∧ ∀ (r27 : Int32) (m28 : Mem), Q25 r27 m28 → ((¬ r27 = (-3) → (XI l M_L_errors G P m28 376 [(0, .ref (gA G 0)), (1, .int a1)] [])) ∧ (r27 = (-3) → (∃ Q31 : Int32 → Mem → Prop, CtI l M_X6_setVertexWeight G [.ref (gA G 0), .int a1, .int 100] m28 Q31 ∧ ∀ (r33 : Int32) (m34 : Mem), Q31 r33 m34 → ((¬ r33 = (-1) → (XI l M_L_errors G P m34 376 [(0, .ref (gA G 0)), (1, .int a1)] [])) ∧ (r33 = (-1) → (XI l M_L_errors G P m34 191 [(0, .ref (gA G 0)), (1, .int a1)] []))))))))))))))))))) :
    XI l M_L_errors G P mem 124 [(0, .ref (gA G 0)), (1, .int a1)] [] := by
  refine x_aload_n (pc := 124) dL_errors_124 0 rfl rfl ?_
  refine x_iconst (pc := 125) (v := 0) dL_errors_125 (by decide) ?_
  refine x_iload_n (pc := 126) dL_errors_126 1 rfl rfl ?_
  obtain ⟨Q1, hc2, h⟩ := h
  refine x_callVI (pc := 127) 0 hc2 ok_X6_cut dL_errors_127 tb_337 ⟨⟨rfl, rfl⟩, ⟨by decide, by decide⟩, by decide, by decide⟩ (mK hG (by decide)) (mc_0 hG _) rfl (As := [.int 0, .int a1]) rfl rfl (Nat.le_of_ble_eq_true rfl) (fun r3 m4 q5 => ?_)
  have h := h r3 m4 q5
  refine x_iconst (pc := 130) (v := (-1)) dL_errors_130 (by decide) ?_
  refine x_icmp_ne (pc := 131) (tgt := 376) dL_errors_131 (by decide) (fun c6 => ?_) (fun c6 => ?_)
  · have h := h.1 c6
    exact x_sub [0, 1] rfl h
  · have h := h.2 c6
    refine x_aload_n (pc := 134) dL_errors_134 0 rfl rfl ?_
    refine x_iconst (pc := 135) (v := 0) dL_errors_135 (by decide) ?_
    refine x_iconst (pc := 136) (v := 0) dL_errors_136 (by decide) ?_
    obtain ⟨Q7, hc8, h⟩ := h
    refine x_callVI (pc := 137) 0 hc8 ok_X6_cut dL_errors_137 tb_337 ⟨⟨rfl, rfl⟩, ⟨by decide, by decide⟩, by decide, by decide⟩ (mK hG (by decide)) (mc_0 hG _) rfl (As := [.int 0, .int 0]) rfl rfl (Nat.le_of_ble_eq_true rfl) (fun r9 m10 q11 => ?_)
    have h := h r9 m10 q11
    refine x_bipush (pc := 140) (v := (-3)) dL_errors_140 (by decide) ?_
    refine x_icmp_ne (pc := 142) (tgt := 376) dL_errors_142 (by decide) (fun c12 => ?_) (fun c12 => ?_)
    · have h := h.1 c12
      exact x_sub [0, 1] rfl h
    · have h := h.2 c12
      refine x_aload_n (pc := 145) dL_errors_145 0 rfl rfl ?_
      refine x_iload_n (pc := 146) dL_errors_146 1 rfl rfl ?_
      refine x_iconst (pc := 147) (v := 0) dL_errors_147 (by decide) ?_
      refine x_iconst (pc := 148) (v := 0) dL_errors_148 (by decide) ?_
      obtain ⟨Q13, hc14, h⟩ := h
      refine x_callVI (pc := 149) 0 hc14 ok_X6_setEdgeWeight dL_errors_149 tb_344 ⟨⟨rfl, rfl⟩, ⟨by decide, by decide⟩, by decide, by decide⟩ (mK hG (by decide)) (mc_0 hG _) rfl (As := [.int a1, .int 0, .int 0]) rfl rfl (Nat.le_of_ble_eq_true rfl) (fun r15 m16 q17 => ?_)
      have h := h r15 m16 q17
      refine x_iconst (pc := 152) (v := (-1)) dL_errors_152 (by decide) ?_
      refine x_icmp_ne (pc := 153) (tgt := 376) dL_errors_153 (by decide) (fun c18 => ?_) (fun c18 => ?_)
      · have h := h.1 c18
        exact x_sub [0, 1] rfl h
      · have h := h.2 c18
        refine x_aload_n (pc := 156) dL_errors_156 0 rfl rfl ?_
        refine x_iconst (pc := 157) (v := 0) dL_errors_157 (by decide) ?_
        refine x_iconst (pc := 158) (v := 0) dL_errors_158 (by decide) ?_
        refine x_iconst (pc := 159) (v := 0) dL_errors_159 (by decide) ?_
        obtain ⟨Q19, hc20, h⟩ := h
        refine x_callVI (pc := 160) 0 hc20 ok_X6_setEdgeWeight dL_errors_160 tb_344 ⟨⟨rfl, rfl⟩, ⟨by decide, by decide⟩, by decide, by decide⟩ (mK hG (by decide)) (mc_0 hG _) rfl (As := [.int 0, .int 0, .int 0]) rfl rfl (Nat.le_of_ble_eq_true rfl) (fun r21 m22 q23 => ?_)
        have h := h r21 m22 q23
        refine x_bipush (pc := 163) (v := (-2)) dL_errors_163 (by decide) ?_
        refine x_icmp_ne (pc := 165) (tgt := 376) dL_errors_165 (by decide) (fun c24 => ?_) (fun c24 => ?_)
        · have h := h.1 c24
          exact x_sub [0, 1] rfl h
        · have h := h.2 c24
          refine x_aload_n (pc := 168) dL_errors_168 0 rfl rfl ?_
          refine x_iconst (pc := 169) (v := 0) dL_errors_169 (by decide) ?_
          refine x_iconst (pc := 170) (v := 0) dL_errors_170 (by decide) ?_
          refine x_iconst (pc := 171) (v := 1) dL_errors_171 (by decide) ?_
          obtain ⟨Q25, hc26, h⟩ := h
          refine x_callVI (pc := 172) 0 hc26 ok_X6_setEdgeWeight dL_errors_172 tb_344 ⟨⟨rfl, rfl⟩, ⟨by decide, by decide⟩, by decide, by decide⟩ (mK hG (by decide)) (mc_0 hG _) rfl (As := [.int 0, .int 0, .int 1]) rfl rfl (Nat.le_of_ble_eq_true rfl) (fun r27 m28 q29 => ?_)
          have h := h r27 m28 q29
          refine x_bipush (pc := 175) (v := (-3)) dL_errors_175 (by decide) ?_
          refine x_icmp_ne (pc := 177) (tgt := 376) dL_errors_177 (by decide) (fun c30 => ?_) (fun c30 => ?_)
          · have h := h.1 c30
            exact x_sub [0, 1] rfl h
          · have h := h.2 c30
            refine x_aload_n (pc := 180) dL_errors_180 0 rfl rfl ?_
            refine x_iload_n (pc := 181) dL_errors_181 1 rfl rfl ?_
            refine x_bipush (pc := 182) (v := 100) dL_errors_182 (by decide) ?_
            obtain ⟨Q31, hc32, h⟩ := h
            refine x_callVI (pc := 184) 0 hc32 ok_X6_setVertexWeight dL_errors_184 tb_348 ⟨⟨rfl, rfl⟩, ⟨by decide, by decide⟩, by decide, by decide⟩ (mK hG (by decide)) (mc_0 hG _) rfl (As := [.int a1, .int 100]) rfl rfl (Nat.le_of_ble_eq_true rfl) (fun r33 m34 q35 => ?_)
            have h := h r33 m34 q35
            refine x_iconst (pc := 187) (v := (-1)) dL_errors_187 (by decide) ?_
            refine x_icmp_ne (pc := 188) (tgt := 376) dL_errors_188 (by decide) (fun c36 => ?_) (fun c36 => ?_)
            · have h := h.1 c36
              exact x_sub [0, 1] rfl h
            · have h := h.2 c36
              exact x_sub [0, 1] rfl h
set_option maxRecDepth 100000 in
set_option maxHeartbeats 4000000 in
theorem t_L_errors_191 {l : Launch} {G : Gx} {P : Int32 → Mem → Prop} (hG : Mn G) (a1 : Int32) (mem : Mem)
    (h : ∃ Q1 : Int32 → Mem → Prop, CtI l M_X6_setVertexWeight G [.ref (gA G 0), .int 0, .int 100] mem Q1 ∧ ∀ (r3 : Int32) (m4 : Mem), Q1 r3 m4 → ((¬ r3 = (-2) → (XI l M_L_errors G P m4 376 [(0, .ref (gA G 0)), (1, .int a1)] [])) ∧ (r3 = (-2) → (∃ Q7 : Int32 → Mem → Prop, CtI l M_X6_setVertexWeight G [.ref (gA G 0), .int 0, .int (-1)] m4 Q7 ∧ ∀ (r9 : Int32) (m10 : Mem), Q7 r9 m10 → ((¬ r9 = (-2) → (XI l M_L_errors G P m10 376 [(0, .ref (gA G 0)), (1, .int a1)] [])) ∧ (r9 = (-2) → (∃ Q13 : Int32 → Mem → Prop, CtI l M_X6_distance G [.ref (gA G 0), .int 0, .int a1] m10 Q13 ∧ ∀ (r15 : Int32) (m16 : Mem), Q13 r15 m16 → ((¬ r15 = (-1) → (XI l M_L_errors G P m16 376 [(0, .ref (gA G 0)), (1, .int a1)] [])) ∧ (r15 = (-1) → (∃ Q19 : Int32 → Mem → Prop, CtI l M_X6_pathVertex G [.ref (gA G 0), .int a1, .int 0, .int (-1)] m16 Q19 ∧ ∀ (r21 : Int32) (m22 : Mem), Q19 r21 m22 → ((¬ r21 = (-1) → (XI l M_L_errors G P m22 376 [(0, .ref (gA G 0)), (1, .int a1)] [])) ∧ (r21 = (-1) → (∃ Q25 : Int32 → Mem → Prop, CtI l M_X6_pathVertex G [.ref (gA G 0), .int 0, .int 0, .int (-1)] m22 Q25 ∧ ∀ (r27 : Int32) (m28 : Mem), Q25 r27 m28 → ((¬ r27 = (-2) → (XI l M_L_errors G P m28 376 [(0, .ref (gA G 0)), (1, .int a1)] [])) ∧ (r27 = (-2) → (∃ Q31 : Int32 → Mem → Prop, CtI l M_X6_pathVertex G [.ref (gA G 0), .int 0, .int 0, .int 1] m28 Q31 ∧ ∀ (r33 : Int32) (m34 : Mem), Q31 r33 m34 → ((¬ r33 = (-9) → (XI l M_L_errors G P m34 376 [(0, .ref (gA G 0)), (1, .int a1)] [])) ∧ (r33 = (-9) → (XI l M_L_errors G P m34 259 [(0, .ref (gA G 0)), (1, .int a1)] []))))))))))))))))))) :
    XI l M_L_errors G P mem 191 [(0, .ref (gA G 0)), (1, .int a1)] [] := by
  refine x_aload_n (pc := 191) dL_errors_191 0 rfl rfl ?_
  refine x_iconst (pc := 192) (v := 0) dL_errors_192 (by decide) ?_
  refine x_bipush (pc := 193) (v := 100) dL_errors_193 (by decide) ?_
  obtain ⟨Q1, hc2, h⟩ := h
  refine x_callVI (pc := 195) 0 hc2 ok_X6_setVertexWeight dL_errors_195 tb_348 ⟨⟨rfl, rfl⟩, ⟨by decide, by decide⟩, by decide, by decide⟩ (mK hG (by decide)) (mc_0 hG _) rfl (As := [.int 0, .int 100]) rfl rfl (Nat.le_of_ble_eq_true rfl) (fun r3 m4 q5 => ?_)
  have h := h r3 m4 q5
  refine x_bipush (pc := 198) (v := (-2)) dL_errors_198 (by decide) ?_
  refine x_icmp_ne (pc := 200) (tgt := 376) dL_errors_200 (by decide) (fun c6 => ?_) (fun c6 => ?_)
  · have h := h.1 c6
    exact x_sub [0, 1] rfl h
  · have h := h.2 c6
    refine x_aload_n (pc := 203) dL_errors_203 0 rfl rfl ?_
    refine x_iconst (pc := 204) (v := 0) dL_errors_204 (by decide) ?_
    refine x_iconst (pc := 205) (v := (-1)) dL_errors_205 (by decide) ?_
    obtain ⟨Q7, hc8, h⟩ := h
    refine x_callVI (pc := 206) 0 hc8 ok_X6_setVertexWeight dL_errors_206 tb_348 ⟨⟨rfl, rfl⟩, ⟨by decide, by decide⟩, by decide, by decide⟩ (mK hG (by decide)) (mc_0 hG _) rfl (As := [.int 0, .int (-1)]) rfl rfl (Nat.le_of_ble_eq_true rfl) (fun r9 m10 q11 => ?_)
    have h := h r9 m10 q11
    refine x_bipush (pc := 209) (v := (-2)) dL_errors_209 (by decide) ?_
    refine x_icmp_ne (pc := 211) (tgt := 376) dL_errors_211 (by decide) (fun c12 => ?_) (fun c12 => ?_)
    · have h := h.1 c12
      exact x_sub [0, 1] rfl h
    · have h := h.2 c12
      refine x_aload_n (pc := 214) dL_errors_214 0 rfl rfl ?_
      refine x_iconst (pc := 215) (v := 0) dL_errors_215 (by decide) ?_
      refine x_iload_n (pc := 216) dL_errors_216 1 rfl rfl ?_
      obtain ⟨Q13, hc14, h⟩ := h
      refine x_callVI (pc := 217) 0 hc14 ok_X6_distance dL_errors_217 tb_356 ⟨⟨rfl, rfl⟩, ⟨by decide, by decide⟩, by decide, by decide⟩ (mK hG (by decide)) (mc_0 hG _) rfl (As := [.int 0, .int a1]) rfl rfl (Nat.le_of_ble_eq_true rfl) (fun r15 m16 q17 => ?_)
      have h := h r15 m16 q17
      refine x_iconst (pc := 220) (v := (-1)) dL_errors_220 (by decide) ?_
      refine x_icmp_ne (pc := 221) (tgt := 376) dL_errors_221 (by decide) (fun c18 => ?_) (fun c18 => ?_)
      · have h := h.1 c18
        exact x_sub [0, 1] rfl h
      · have h := h.2 c18
        refine x_aload_n (pc := 224) dL_errors_224 0 rfl rfl ?_
        refine x_iload_n (pc := 225) dL_errors_225 1 rfl rfl ?_
        refine x_iconst (pc := 226) (v := 0) dL_errors_226 (by decide) ?_
        refine x_iconst (pc := 227) (v := (-1)) dL_errors_227 (by decide) ?_
        obtain ⟨Q19, hc20, h⟩ := h
        refine x_callVI (pc := 228) 0 hc20 ok_X6_pathVertex dL_errors_228 tb_361 ⟨⟨rfl, rfl⟩, ⟨by decide, by decide⟩, by decide, by decide⟩ (mK hG (by decide)) (mc_0 hG _) rfl (As := [.int a1, .int 0, .int (-1)]) rfl rfl (Nat.le_of_ble_eq_true rfl) (fun r21 m22 q23 => ?_)
        have h := h r21 m22 q23
        refine x_iconst (pc := 231) (v := (-1)) dL_errors_231 (by decide) ?_
        refine x_icmp_ne (pc := 232) (tgt := 376) dL_errors_232 (by decide) (fun c24 => ?_) (fun c24 => ?_)
        · have h := h.1 c24
          exact x_sub [0, 1] rfl h
        · have h := h.2 c24
          refine x_aload_n (pc := 235) dL_errors_235 0 rfl rfl ?_
          refine x_iconst (pc := 236) (v := 0) dL_errors_236 (by decide) ?_
          refine x_iconst (pc := 237) (v := 0) dL_errors_237 (by decide) ?_
          refine x_iconst (pc := 238) (v := (-1)) dL_errors_238 (by decide) ?_
          obtain ⟨Q25, hc26, h⟩ := h
          refine x_callVI (pc := 239) 0 hc26 ok_X6_pathVertex dL_errors_239 tb_361 ⟨⟨rfl, rfl⟩, ⟨by decide, by decide⟩, by decide, by decide⟩ (mK hG (by decide)) (mc_0 hG _) rfl (As := [.int 0, .int 0, .int (-1)]) rfl rfl (Nat.le_of_ble_eq_true rfl) (fun r27 m28 q29 => ?_)
          have h := h r27 m28 q29
          refine x_bipush (pc := 242) (v := (-2)) dL_errors_242 (by decide) ?_
          refine x_icmp_ne (pc := 244) (tgt := 376) dL_errors_244 (by decide) (fun c30 => ?_) (fun c30 => ?_)
          · have h := h.1 c30
            exact x_sub [0, 1] rfl h
          · have h := h.2 c30
            refine x_aload_n (pc := 247) dL_errors_247 0 rfl rfl ?_
            refine x_iconst (pc := 248) (v := 0) dL_errors_248 (by decide) ?_
            refine x_iconst (pc := 249) (v := 0) dL_errors_249 (by decide) ?_
            refine x_iconst (pc := 250) (v := 1) dL_errors_250 (by decide) ?_
            obtain ⟨Q31, hc32, h⟩ := h
            refine x_callVI (pc := 251) 0 hc32 ok_X6_pathVertex dL_errors_251 tb_361 ⟨⟨rfl, rfl⟩, ⟨by decide, by decide⟩, by decide, by decide⟩ (mK hG (by decide)) (mc_0 hG _) rfl (As := [.int 0, .int 0, .int 1]) rfl rfl (Nat.le_of_ble_eq_true rfl) (fun r33 m34 q35 => ?_)
            have h := h r33 m34 q35
            refine x_bipush (pc := 254) (v := (-9)) dL_errors_254 (by decide) ?_
            refine x_icmp_ne (pc := 256) (tgt := 376) dL_errors_256 (by decide) (fun c36 => ?_) (fun c36 => ?_)
            · have h := h.1 c36
              exact x_sub [0, 1] rfl h
            · have h := h.2 c36
              exact x_sub [0, 1] rfl h
set_option maxRecDepth 100000 in
set_option maxHeartbeats 4000000 in
theorem t_L_errors_259 {l : Launch} {G : Gx} {P : Int32 → Mem → Prop} (hG : Mn G) (a1 : Int32) (mem : Mem)
    (h : ∃ Q1 : Int32 → Mem → Prop, CtI l M_X6_eccentricity G [.ref (gA G 0), .int a1] mem Q1 ∧ ∀ (r3 : Int32) (m4 : Mem), Q1 r3 m4 → ((¬ r3 = (-1) → (XI l M_L_errors G P m4 376 [(0, .ref (gA G 0)), (1, .int a1)] [])) ∧ (r3 = (-1) → (∃ Q7 : Int32 → Mem → Prop, CtI l M_X6_diameter G [.ref (gA G 0), .int (-1)] m4 Q7 ∧ ∀ (r9 : Int32) (m10 : Mem), Q7 r9 m10 → ((¬ r9 = (-1) → (XI l M_L_errors G P m10 376 [(0, .ref (gA G 0)), (1, .int a1)] [])) ∧ (r9 = (-1) → (∃ Q13 : Int32 → Mem → Prop, CtI l M_X6_diameterEnd G [.ref (gA G 0), .int a1, .int 2] m10 Q13 ∧ ∀ (r15 : Int32) (m16 : Mem), Q13 r15 m16 → ((¬ r15 = (-1) → (XI l M_L_errors G P m16 376 [(0, .ref (gA G 0)), (1, .int a1)] [])) ∧ (r15 = (-1) → (∃ Q19 : Int32 → Mem → Prop, CtI l M_X6_diameterEnd G [.ref (gA G 0), .int 0, .int 2] m16 Q19 ∧ ∀ (r21 : Int32) (m22 : Mem), Q19 r21 m22 → ((¬ r21 = (-2) → (XI l M_L_errors G P m22 376 [(0, .ref (gA G 0)), (1, .int a1)] [])) ∧ (r21 = (-2) → (∃ Q25 : Int32 → Mem → Prop, CtI l M_X6_centre G [.ref (gA G 0), .int a1] m22 Q25 ∧ ∀ (r27 : Int32) (m28 : Mem), Q25 r27 m28 → ((¬ r27 = (-1) → (XI l M_L_errors G P m28 376 [(0, .ref (gA G 0)), (1, .int a1)] [])) ∧ (r27 = (-1) → (∃ Q31 : Int32 → Mem → Prop, CtI l M_X6_median G [.ref (gA G 0), .int a1] m28 Q31 ∧ ∀ (r33 : Int32) (m34 : Mem), Q31 r33 m34 → ((¬ r33 = (-1) → (XI l M_L_errors G P m34 376 [(0, .ref (gA G 0)), (1, .int a1)] [])) ∧ (r33 = (-1) → (XI l M_L_errors G P m34 316 [(0, .ref (gA G 0)), (1, .int a1)] []))))))))))))))))))) :
    XI l M_L_errors G P mem 259 [(0, .ref (gA G 0)), (1, .int a1)] [] := by
  refine x_aload_n (pc := 259) dL_errors_259 0 rfl rfl ?_
  refine x_iload_n (pc := 260) dL_errors_260 1 rfl rfl ?_
  obtain ⟨Q1, hc2, h⟩ := h
  refine x_callVI (pc := 261) 0 hc2 ok_X6_eccentricity dL_errors_261 tb_374 ⟨⟨rfl, rfl⟩, ⟨by decide, by decide⟩, by decide, by decide⟩ (mK hG (by decide)) (mc_0 hG _) rfl (As := [.int a1]) rfl rfl (Nat.le_of_ble_eq_true rfl) (fun r3 m4 q5 => ?_)
  have h := h r3 m4 q5
  refine x_iconst (pc := 264) (v := (-1)) dL_errors_264 (by decide) ?_
  refine x_icmp_ne (pc := 265) (tgt := 376) dL_errors_265 (by decide) (fun c6 => ?_) (fun c6 => ?_)
  · have h := h.1 c6
    exact x_sub [0, 1] rfl h
  · have h := h.2 c6
    refine x_aload_n (pc := 268) dL_errors_268 0 rfl rfl ?_
    refine x_iconst (pc := 269) (v := (-1)) dL_errors_269 (by decide) ?_
    obtain ⟨Q7, hc8, h⟩ := h
    refine x_callVI (pc := 270) 0 hc8 ok_X6_diameter dL_errors_270 tb_386 ⟨⟨rfl, rfl⟩, ⟨by decide, by decide⟩, by decide, by decide⟩ (mK hG (by decide)) (mc_0 hG _) rfl (As := [.int (-1)]) rfl rfl (Nat.le_of_ble_eq_true rfl) (fun r9 m10 q11 => ?_)
    have h := h r9 m10 q11
    refine x_iconst (pc := 273) (v := (-1)) dL_errors_273 (by decide) ?_
    refine x_icmp_ne (pc := 274) (tgt := 376) dL_errors_274 (by decide) (fun c12 => ?_) (fun c12 => ?_)
    · have h := h.1 c12
      exact x_sub [0, 1] rfl h
    · have h := h.2 c12
      refine x_aload_n (pc := 277) dL_errors_277 0 rfl rfl ?_
      refine x_iload_n (pc := 278) dL_errors_278 1 rfl rfl ?_
      refine x_iconst (pc := 279) (v := 2) dL_errors_279 (by decide) ?_
      obtain ⟨Q13, hc14, h⟩ := h
      refine x_callVI (pc := 280) 0 hc14 ok_X6_diameterEnd dL_errors_280 tb_399 ⟨⟨rfl, rfl⟩, ⟨by decide, by decide⟩, by decide, by decide⟩ (mK hG (by decide)) (mc_0 hG _) rfl (As := [.int a1, .int 2]) rfl rfl (Nat.le_of_ble_eq_true rfl) (fun r15 m16 q17 => ?_)
      have h := h r15 m16 q17
      refine x_iconst (pc := 283) (v := (-1)) dL_errors_283 (by decide) ?_
      refine x_icmp_ne (pc := 284) (tgt := 376) dL_errors_284 (by decide) (fun c18 => ?_) (fun c18 => ?_)
      · have h := h.1 c18
        exact x_sub [0, 1] rfl h
      · have h := h.2 c18
        refine x_aload_n (pc := 287) dL_errors_287 0 rfl rfl ?_
        refine x_iconst (pc := 288) (v := 0) dL_errors_288 (by decide) ?_
        refine x_iconst (pc := 289) (v := 2) dL_errors_289 (by decide) ?_
        obtain ⟨Q19, hc20, h⟩ := h
        refine x_callVI (pc := 290) 0 hc20 ok_X6_diameterEnd dL_errors_290 tb_399 ⟨⟨rfl, rfl⟩, ⟨by decide, by decide⟩, by decide, by decide⟩ (mK hG (by decide)) (mc_0 hG _) rfl (As := [.int 0, .int 2]) rfl rfl (Nat.le_of_ble_eq_true rfl) (fun r21 m22 q23 => ?_)
        have h := h r21 m22 q23
        refine x_bipush (pc := 293) (v := (-2)) dL_errors_293 (by decide) ?_
        refine x_icmp_ne (pc := 295) (tgt := 376) dL_errors_295 (by decide) (fun c24 => ?_) (fun c24 => ?_)
        · have h := h.1 c24
          exact x_sub [0, 1] rfl h
        · have h := h.2 c24
          refine x_aload_n (pc := 298) dL_errors_298 0 rfl rfl ?_
          refine x_iload_n (pc := 299) dL_errors_299 1 rfl rfl ?_
          obtain ⟨Q25, hc26, h⟩ := h
          refine x_callVI (pc := 300) 0 hc26 ok_X6_centre dL_errors_300 tb_405 ⟨⟨rfl, rfl⟩, ⟨by decide, by decide⟩, by decide, by decide⟩ (mK hG (by decide)) (mc_0 hG _) rfl (As := [.int a1]) rfl rfl (Nat.le_of_ble_eq_true rfl) (fun r27 m28 q29 => ?_)
          have h := h r27 m28 q29
          refine x_iconst (pc := 303) (v := (-1)) dL_errors_303 (by decide) ?_
          refine x_icmp_ne (pc := 304) (tgt := 376) dL_errors_304 (by decide) (fun c30 => ?_) (fun c30 => ?_)
          · have h := h.1 c30
            exact x_sub [0, 1] rfl h
          · have h := h.2 c30
            refine x_aload_n (pc := 307) dL_errors_307 0 rfl rfl ?_
            refine x_iload_n (pc := 308) dL_errors_308 1 rfl rfl ?_
            obtain ⟨Q31, hc32, h⟩ := h
            refine x_callVI (pc := 309) 0 hc32 ok_X6_median dL_errors_309 tb_414 ⟨⟨rfl, rfl⟩, ⟨by decide, by decide⟩, by decide, by decide⟩ (mK hG (by decide)) (mc_0 hG _) rfl (As := [.int a1]) rfl rfl (Nat.le_of_ble_eq_true rfl) (fun r33 m34 q35 => ?_)
            have h := h r33 m34 q35
            refine x_iconst (pc := 312) (v := (-1)) dL_errors_312 (by decide) ?_
            refine x_icmp_ne (pc := 313) (tgt := 376) dL_errors_313 (by decide) (fun c36 => ?_) (fun c36 => ?_)
            · have h := h.1 c36
              exact x_sub [0, 1] rfl h
            · have h := h.2 c36
              exact x_sub [0, 1] rfl h
set_option maxRecDepth 100000 in
set_option maxHeartbeats 4000000 in
theorem t_L_errors_316 {l : Launch} {G : Gx} {P : Int32 → Mem → Prop} (hG : Mn G) (a1 : Int32) (mem : Mem)
    (h : ∃ Q1 : Int32 → Mem → Prop, CtI l M_X6_cost G [.ref (gA G 0), .int a1] mem Q1 ∧ ∀ (r3 : Int32) (m4 : Mem), Q1 r3 m4 → ((¬ r3 = (-1) → (XI l M_L_errors G P m4 376 [(0, .ref (gA G 0)), (1, .int a1)] [])) ∧ (r3 = (-1) → (∃ Q7 : Int32 → Mem → Prop, CtI l M_X6_meeting G [.ref (gA G 0), .int 0, .int 0, .int a1] m4 Q7 ∧ ∀ (r9 : Int32) (m10 : Mem), Q7 r9 m10 → ((¬ r9 = (-1) → (XI l M_L_errors G P m10 376 [(0, .ref (gA G 0)), (1, .int a1)] [])) ∧ (r9 = (-1) → (∃ Q13 : Int32 → Mem → Prop, CtI l M_X6_rounds G [.ref (gA G 0), .int a1] m10 Q13 ∧ ∀ (r15 : Int32) (m16 : Mem), Q13 r15 m16 → ((¬ r15 = (-1) → (XI l M_L_errors G P m16 376 [(0, .ref (gA G 0)), (1, .int a1)] [])) ∧ (r15 = (-1) → (∃ Q19 : Int32 → Mem → Prop, CtI l M_X6_removalRound G [.ref (gA G 0), .int a1] m16 Q19 ∧ ∀ (r21 : Int32) (m22 : Mem), Q19 r21 m22 → ((¬ r21 = (-1) → (XI l M_L_errors G P m22 376 [(0, .ref (gA G 0)), (1, .int a1)] [])) ∧ (r21 = (-1) → (∃ Q25 : Int32 → Mem → Prop, CtI l M_X6_survivor G [.ref (gA G 0), .int a1] m22 Q25 ∧ ∀ (r27 : Int32) (m28 : Mem), Q25 r27 m28 → ((¬ r27 = (-1) → (XI l M_L_errors G P m28 376 [(0, .ref (gA G 0)), (1, .int a1)] [])) ∧ (r27 = (-1) → (∃ Q31 : Int32 → Mem → Prop, CtI l M_X6_balancedCut G [.ref (gA G 0), .int a1] m28 Q31 ∧ ∀ (r33 : Int32) (m34 : Mem), Q31 r33 m34 → ((¬ r33 = (-1) → (XI l M_L_errors G P m34 376 [(0, .ref (gA G 0)), (1, .int a1)] [])) ∧ (r33 = (-1) → (XI l M_L_errors G P m34 372 [(0, .ref (gA G 0)), (1, .int a1)] []))))))))))))))))))) :
    XI l M_L_errors G P mem 316 [(0, .ref (gA G 0)), (1, .int a1)] [] := by
  refine x_aload_n (pc := 316) dL_errors_316 0 rfl rfl ?_
  refine x_iload_n (pc := 317) dL_errors_317 1 rfl rfl ?_
  obtain ⟨Q1, hc2, h⟩ := h
  refine x_callVI (pc := 318) 0 hc2 ok_X6_cost dL_errors_318 tb_427 ⟨⟨rfl, rfl⟩, ⟨by decide, by decide⟩, by decide, by decide⟩ (mK hG (by decide)) (mc_0 hG _) rfl (As := [.int a1]) rfl rfl (Nat.le_of_ble_eq_true rfl) (fun r3 m4 q5 => ?_)
  have h := h r3 m4 q5
  refine x_iconst (pc := 321) (v := (-1)) dL_errors_321 (by decide) ?_
  refine x_icmp_ne (pc := 322) (tgt := 376) dL_errors_322 (by decide) (fun c6 => ?_) (fun c6 => ?_)
  · have h := h.1 c6
    exact x_sub [0, 1] rfl h
  · have h := h.2 c6
    refine x_aload_n (pc := 325) dL_errors_325 0 rfl rfl ?_
    refine x_iconst (pc := 326) (v := 0) dL_errors_326 (by decide) ?_
    refine x_iconst (pc := 327) (v := 0) dL_errors_327 (by decide) ?_
    refine x_iload_n (pc := 328) dL_errors_328 1 rfl rfl ?_
    obtain ⟨Q7, hc8, h⟩ := h
    refine x_callVI (pc := 329) 0 hc8 ok_X6_meeting dL_errors_329 tb_432 ⟨⟨rfl, rfl⟩, ⟨by decide, by decide⟩, by decide, by decide⟩ (mK hG (by decide)) (mc_0 hG _) rfl (As := [.int 0, .int 0, .int a1]) rfl rfl (Nat.le_of_ble_eq_true rfl) (fun r9 m10 q11 => ?_)
    have h := h r9 m10 q11
    refine x_iconst (pc := 332) (v := (-1)) dL_errors_332 (by decide) ?_
    refine x_icmp_ne (pc := 333) (tgt := 376) dL_errors_333 (by decide) (fun c12 => ?_) (fun c12 => ?_)
    · have h := h.1 c12
      exact x_sub [0, 1] rfl h
    · have h := h.2 c12
      refine x_aload_n (pc := 336) dL_errors_336 0 rfl rfl ?_
      refine x_iload_n (pc := 337) dL_errors_337 1 rfl rfl ?_
      obtain ⟨Q13, hc14, h⟩ := h
      refine x_callVI (pc := 338) 0 hc14 ok_X6_rounds dL_errors_338 tb_444 ⟨⟨rfl, rfl⟩, ⟨by decide, by decide⟩, by decide, by decide⟩ (mK hG (by decide)) (mc_0 hG _) rfl (As := [.int a1]) rfl rfl (Nat.le_of_ble_eq_true rfl) (fun r15 m16 q17 => ?_)
      have h := h r15 m16 q17
      refine x_iconst (pc := 341) (v := (-1)) dL_errors_341 (by decide) ?_
      refine x_icmp_ne (pc := 342) (tgt := 376) dL_errors_342 (by decide) (fun c18 => ?_) (fun c18 => ?_)
      · have h := h.1 c18
        exact x_sub [0, 1] rfl h
      · have h := h.2 c18
        refine x_aload_n (pc := 345) dL_errors_345 0 rfl rfl ?_
        refine x_iload_n (pc := 346) dL_errors_346 1 rfl rfl ?_
        obtain ⟨Q19, hc20, h⟩ := h
        refine x_callVI (pc := 347) 0 hc20 ok_X6_removalRound dL_errors_347 tb_507 ⟨⟨rfl, rfl⟩, ⟨by decide, by decide⟩, by decide, by decide⟩ (mK hG (by decide)) (mc_0 hG _) rfl (As := [.int a1]) rfl rfl (Nat.le_of_ble_eq_true rfl) (fun r21 m22 q23 => ?_)
        have h := h r21 m22 q23
        refine x_iconst (pc := 350) (v := (-1)) dL_errors_350 (by decide) ?_
        refine x_icmp_ne (pc := 351) (tgt := 376) dL_errors_351 (by decide) (fun c24 => ?_) (fun c24 => ?_)
        · have h := h.1 c24
          exact x_sub [0, 1] rfl h
        · have h := h.2 c24
          refine x_aload_n (pc := 354) dL_errors_354 0 rfl rfl ?_
          refine x_iload_n (pc := 355) dL_errors_355 1 rfl rfl ?_
          obtain ⟨Q25, hc26, h⟩ := h
          refine x_callVI (pc := 356) 0 hc26 ok_X6_survivor dL_errors_356 tb_515 ⟨⟨rfl, rfl⟩, ⟨by decide, by decide⟩, by decide, by decide⟩ (mK hG (by decide)) (mc_0 hG _) rfl (As := [.int a1]) rfl rfl (Nat.le_of_ble_eq_true rfl) (fun r27 m28 q29 => ?_)
          have h := h r27 m28 q29
          refine x_iconst (pc := 359) (v := (-1)) dL_errors_359 (by decide) ?_
          refine x_icmp_ne (pc := 360) (tgt := 376) dL_errors_360 (by decide) (fun c30 => ?_) (fun c30 => ?_)
          · have h := h.1 c30
            exact x_sub [0, 1] rfl h
          · have h := h.2 c30
            refine x_aload_n (pc := 363) dL_errors_363 0 rfl rfl ?_
            refine x_iload_n (pc := 364) dL_errors_364 1 rfl rfl ?_
            obtain ⟨Q31, hc32, h⟩ := h
            refine x_callVI (pc := 365) 0 hc32 ok_X6_balancedCut dL_errors_365 tb_523 ⟨⟨rfl, rfl⟩, ⟨by decide, by decide⟩, by decide, by decide⟩ (mK hG (by decide)) (mc_0 hG _) rfl (As := [.int a1]) rfl rfl (Nat.le_of_ble_eq_true rfl) (fun r33 m34 q35 => ?_)
            have h := h r33 m34 q35
            refine x_iconst (pc := 368) (v := (-1)) dL_errors_368 (by decide) ?_
            refine x_icmp_ne (pc := 369) (tgt := 376) dL_errors_369 (by decide) (fun c36 => ?_) (fun c36 => ?_)
            · have h := h.1 c36
              exact x_sub [0, 1] rfl h
            · have h := h.2 c36
              exact x_sub [0, 1] rfl h
set_option maxRecDepth 100000 in
set_option maxHeartbeats 4000000 in
theorem t_L_errors_372 {l : Launch} {G : Gx} {P : Int32 → Mem → Prop} (hG : Mn G) (a1 : Int32) (mem : Mem)
    (h : XI l M_L_errors G P mem 378 [(0, .ref (gA G 0)), (1, .int a1), (2, .int 1)] []) :
    XI l M_L_errors G P mem 372 [(0, .ref (gA G 0)), (1, .int a1)] [] := by
  refine x_iconst (pc := 372) (v := 1) dL_errors_372 (by decide) ?_
  refine x_goto (pc := 373) (tgt := 377) dL_errors_373 (by decide) ?_
  refine x_istore_n (pc := 377) dL_errors_377 rfl (by decide) rfl ?_
  exact x_sub [1, 2, 0] rfl h
set_option maxRecDepth 100000 in
set_option maxHeartbeats 4000000 in
theorem t_L_errors_376 {l : Launch} {G : Gx} {P : Int32 → Mem → Prop} (hG : Mn G) (a1 : Int32) (mem : Mem)
    (h : XI l M_L_errors G P mem 378 [(0, .ref (gA G 0)), (1, .int a1), (2, .int 0)] []) :
    XI l M_L_errors G P mem 376 [(0, .ref (gA G 0)), (1, .int a1)] [] := by
  refine x_iconst (pc := 376) (v := 0) dL_errors_376 (by decide) ?_
  refine x_istore_n (pc := 377) dL_errors_377 rfl (by decide) rfl ?_
  exact x_sub [1, 2, 0] rfl h
set_option maxRecDepth 100000 in
set_option maxHeartbeats 4000000 in
theorem t_L_errors_378 {l : Launch} {G : Gx} {P : Int32 → Mem → Prop} (hG : Mn G) (a1 : Int32) (a2 : Int32) (mem : Mem)
    (h : (a2 = 0 → (XI l M_L_errors G P mem 576 [] [])) ∧ (¬ a2 = 0 → (∃ Q2 : Int64 → Mem → Prop, CtL l M_X6_expectedReach G [.ref (gA G 0), .int a1, .int 11] mem Q2 ∧ ∀ (r4 : Int64) (m5 : Mem), Q2 r4 m5 → ((¬ (lg_cmp r4 (-1)) = 0 → (XI l M_L_errors G P m5 576 [] [])) ∧ ((lg_cmp r4 (-1)) = 0 → (∃ Q8 : Int64 → Mem → Prop, CtL l M_X6_expectedReach G [.ref (gA G 0), .int 0, .int 11] m5 Q8 ∧ ∀ (r10 : Int64) (m11 : Mem), Q8 r10 m11 → ((¬ (lg_cmp r10 (-2)) = 0 → (XI l M_L_errors G P m11 576 [] [])) ∧ ((lg_cmp r10 (-2)) = 0 → (∃ Q14 : Int64 → Mem → Prop, CtL l M_X6_expectedReach G [.ref (gA G 0), .int 0, .int (-1)] m11 Q14 ∧ ∀ (r16 : Int64) (m17 : Mem), Q14 r16 m17 → ((¬ (lg_cmp r16 (-2)) = 0 → (XI l M_L_errors G P m17 576 [] [])) ∧ ((lg_cmp r16 (-2)) = 0 → (∃ Q20 : Int32 → Mem → Prop, CtI l M_X6_observe G [.ref (gA G 0), .int 12, .int 0, .int 0] m17 Q20 ∧ ∀ (r22 : Int32) (m23 : Mem), Q20 r22 m23 → ((¬ r22 = (-2) → (XI l M_L_errors G P m23 576 [] [])) ∧ (r22 = (-2) → (∃ Q26 : Int32 → Mem → Prop, CtI l M_X6_observe G [.ref (gA G 0), .int 0, .int (-1), .int 0] m23 Q26 ∧ ∀ (r28 : Int32) (m29 : Mem), Q26 r28 m29 → ((¬ r28 = (-2) → (XI l M_L_errors G P m29 576 [] [])) ∧ (r28 = (-2) → (∃ Q32 : Int32 → Mem → Prop, CtI l M_X6_observe G [.ref (gA G 0), .int 0, .int 0, .int 1000] m29 Q32 ∧ ∀ (r34 : Int32) (m35 : Mem), Q32 r34 m35 → ((¬ r34 = (-2) → (XI l M_L_errors G P m35 576 [] [])) ∧ (r34 = (-2) → (XI l M_L_errors G P m35 462 [(0, .ref (gA G 0)), (1, .int a1)] []))))))))))))))))))))) :
    XI l M_L_errors G P mem 378 [(0, .ref (gA G 0)), (1, .int a1), (2, .int a2)] [] := by
  refine x_iload_n (pc := 378) dL_errors_378 2 rfl rfl ?_
  refine x_if_eq (pc := 379) (tgt := 576) dL_errors_379 (by decide) (fun c1 => ?_) (fun c1 => ?_)
  · have h := h.1 c1
    exact x_sub [] rfl h
  · have h := h.2 c1
    refine x_aload_n (pc := 382) dL_errors_382 0 rfl rfl ?_
    refine x_iload_n (pc := 383) dL_errors_383 1 rfl rfl ?_
    refine x_bipush (pc := 384) (v := 11) dL_errors_384 (by decide) ?_
    obtain ⟨Q2, hc3, h⟩ := h
    refine x_callVL (pc := 386) 0 hc3 ok_X6_expectedReach dL_errors_386 tb_536 ⟨⟨rfl, rfl⟩, ⟨by decide, by decide⟩, by decide, by decide⟩ (mK hG (by decide)) (mc_0 hG _) rfl (As := [.int a1, .int 11]) rfl rfl (Nat.le_of_ble_eq_true rfl) (fun r4 m5 q6 => ?_)
    have h := h r4 m5 q6
    refine x_ldc2 (pc := 389) (v := (-1)) dL_errors_389 tb_552 ?_
    refine x_lcmp (pc := 392) dL_errors_392 ?_
    refine x_if_ne (pc := 393) (tgt := 576) dL_errors_393 (by decide) (fun c7 => ?_) (fun c7 => ?_)
    · have h := h.1 c7
      exact x_sub [] rfl h
    · have h := h.2 c7
      refine x_aload_n (pc := 396) dL_errors_396 0 rfl rfl ?_
      refine x_iconst (pc := 397) (v := 0) dL_errors_397 (by decide) ?_
      refine x_bipush (pc := 398) (v := 11) dL_errors_398 (by decide) ?_
      obtain ⟨Q8, hc9, h⟩ := h
      refine x_callVL (pc := 400) 0 hc9 ok_X6_expectedReach dL_errors_400 tb_536 ⟨⟨rfl, rfl⟩, ⟨by decide, by decide⟩, by decide, by decide⟩ (mK hG (by decide)) (mc_0 hG _) rfl (As := [.int 0, .int 11]) rfl rfl (Nat.le_of_ble_eq_true rfl) (fun r10 m11 q12 => ?_)
      have h := h r10 m11 q12
      refine x_ldc2 (pc := 403) (v := (-2)) dL_errors_403 tb_553 ?_
      refine x_lcmp (pc := 406) dL_errors_406 ?_
      refine x_if_ne (pc := 407) (tgt := 576) dL_errors_407 (by decide) (fun c13 => ?_) (fun c13 => ?_)
      · have h := h.1 c13
        exact x_sub [] rfl h
      · have h := h.2 c13
        refine x_aload_n (pc := 410) dL_errors_410 0 rfl rfl ?_
        refine x_iconst (pc := 411) (v := 0) dL_errors_411 (by decide) ?_
        refine x_iconst (pc := 412) (v := (-1)) dL_errors_412 (by decide) ?_
        obtain ⟨Q14, hc15, h⟩ := h
        refine x_callVL (pc := 413) 0 hc15 ok_X6_expectedReach dL_errors_413 tb_536 ⟨⟨rfl, rfl⟩, ⟨by decide, by decide⟩, by decide, by decide⟩ (mK hG (by decide)) (mc_0 hG _) rfl (As := [.int 0, .int (-1)]) rfl rfl (Nat.le_of_ble_eq_true rfl) (fun r16 m17 q18 => ?_)
        have h := h r16 m17 q18
        refine x_ldc2 (pc := 416) (v := (-2)) dL_errors_416 tb_553 ?_
        refine x_lcmp (pc := 419) dL_errors_419 ?_
        refine x_if_ne (pc := 420) (tgt := 576) dL_errors_420 (by decide) (fun c19 => ?_) (fun c19 => ?_)
        · have h := h.1 c19
          exact x_sub [] rfl h
        · have h := h.2 c19
          refine x_aload_n (pc := 423) dL_errors_423 0 rfl rfl ?_
          refine x_bipush (pc := 424) (v := 12) dL_errors_424 (by decide) ?_
          refine x_iconst (pc := 426) (v := 0) dL_errors_426 (by decide) ?_
          refine x_iconst (pc := 427) (v := 0) dL_errors_427 (by decide) ?_
          obtain ⟨Q20, hc21, h⟩ := h
          refine x_callVI (pc := 428) 0 hc21 ok_X6_observe dL_errors_428 tb_554 ⟨⟨rfl, rfl⟩, ⟨by decide, by decide⟩, by decide, by decide⟩ (mK hG (by decide)) (mc_0 hG _) rfl (As := [.int 12, .int 0, .int 0]) rfl rfl (Nat.le_of_ble_eq_true rfl) (fun r22 m23 q24 => ?_)
          have h := h r22 m23 q24
          refine x_bipush (pc := 431) (v := (-2)) dL_errors_431 (by decide) ?_
          refine x_icmp_ne (pc := 433) (tgt := 576) dL_errors_433 (by decide) (fun c25 => ?_) (fun c25 => ?_)
          · have h := h.1 c25
            exact x_sub [] rfl h
          · have h := h.2 c25
            refine x_aload_n (pc := 436) dL_errors_436 0 rfl rfl ?_
            refine x_iconst (pc := 437) (v := 0) dL_errors_437 (by decide) ?_
            refine x_iconst (pc := 438) (v := (-1)) dL_errors_438 (by decide) ?_
            refine x_iconst (pc := 439) (v := 0) dL_errors_439 (by decide) ?_
            obtain ⟨Q26, hc27, h⟩ := h
            refine x_callVI (pc := 440) 0 hc27 ok_X6_observe dL_errors_440 tb_554 ⟨⟨rfl, rfl⟩, ⟨by decide, by decide⟩, by decide, by decide⟩ (mK hG (by decide)) (mc_0 hG _) rfl (As := [.int 0, .int (-1), .int 0]) rfl rfl (Nat.le_of_ble_eq_true rfl) (fun r28 m29 q30 => ?_)
            have h := h r28 m29 q30
            refine x_bipush (pc := 443) (v := (-2)) dL_errors_443 (by decide) ?_
            refine x_icmp_ne (pc := 445) (tgt := 576) dL_errors_445 (by decide) (fun c31 => ?_) (fun c31 => ?_)
            · have h := h.1 c31
              exact x_sub [] rfl h
            · have h := h.2 c31
              refine x_aload_n (pc := 448) dL_errors_448 0 rfl rfl ?_
              refine x_iconst (pc := 449) (v := 0) dL_errors_449 (by decide) ?_
              refine x_iconst (pc := 450) (v := 0) dL_errors_450 (by decide) ?_
              refine x_sipush (pc := 451) (v := 1000) dL_errors_451 (by decide) ?_
              obtain ⟨Q32, hc33, h⟩ := h
              refine x_callVI (pc := 454) 0 hc33 ok_X6_observe dL_errors_454 tb_554 ⟨⟨rfl, rfl⟩, ⟨by decide, by decide⟩, by decide, by decide⟩ (mK hG (by decide)) (mc_0 hG _) rfl (As := [.int 0, .int 0, .int 1000]) rfl rfl (Nat.le_of_ble_eq_true rfl) (fun r34 m35 q36 => ?_)
              have h := h r34 m35 q36
              refine x_bipush (pc := 457) (v := (-2)) dL_errors_457 (by decide) ?_
              refine x_icmp_ne (pc := 459) (tgt := 576) dL_errors_459 (by decide) (fun c37 => ?_) (fun c37 => ?_)
              · have h := h.1 c37
                exact x_sub [] rfl h
              · have h := h.2 c37
                exact x_sub [0, 1] rfl h
set_option maxRecDepth 100000 in
set_option maxHeartbeats 4000000 in
theorem t_L_errors_462 {l : Launch} {G : Gx} {P : Int32 → Mem → Prop} (hG : Mn G) (a1 : Int32) (mem : Mem)
    (h : ∃ Q1 : Int32 → Mem → Prop, CtI l M_X6_possibleWeights G [.ref (gA G 0), .int a1, .int 0] mem Q1 ∧ ∀ (r3 : Int32) (m4 : Mem), Q1 r3 m4 → ((¬ r3 = (-1) → (XI l M_L_errors G P m4 576 [] [])) ∧ (r3 = (-1) → (∃ Q7 : Int32 → Mem → Prop, CtI l M_X6_possibleWeights G [.ref (gA G 0), .int 0, .int 0] m4 Q7 ∧ ∀ (r9 : Int32) (m10 : Mem), Q7 r9 m10 → ((¬ r9 = (-3) → (XI l M_L_errors G P m10 576 [] [])) ∧ (r9 = (-3) → (∃ Q13 : Int32 → Mem → Prop, CtI l M_X6_runScript G [.ref (gA G 0), .int 0, .long 0] m10 Q13 ∧ ∀ (r15 : Int32) (m16 : Mem), Q13 r15 m16 → ((¬ r15 = (-2) → (XI l M_L_errors G P m16 576 [] [])) ∧ (r15 = (-2) → (∃ Q19 : Int32 → Mem → Prop, CtI l M_X6_runScript G [.ref (gA G 0), .int 4, .long 0] m16 Q19 ∧ ∀ (r21 : Int32) (m22 : Mem), Q19 r21 m22 → ((¬ r21 = (-2) → (XI l M_L_errors G P m22 576 [] [])) ∧ (r21 = (-2) → (∃ Q25 : Int32 → Mem → Prop, CtI l M_X6_runScript G [.ref (gA G 0), .int 1, .long 100000] m22 Q25 ∧ ∀ (r27 : Int32) (m28 : Mem), Q25 r27 m28 → ((¬ r27 = (-2) → (XI l M_L_errors G P m28 576 [] [])) ∧ (r27 = (-2) → (∃ Q31 : Int32 → Mem → Prop, CtI l M_X6_runScript G [.ref (gA G 0), .int 1, .long (-1)] m28 Q31 ∧ ∀ (r33 : Int32) (m34 : Mem), Q31 r33 m34 → ((¬ r33 = (-2) → (XI l M_L_errors G P m34 576 [] [])) ∧ (r33 = (-2) → (XI l M_L_errors G P m34 531 [(0, .ref (gA G 0))] []))))))))))))))))))) :
    XI l M_L_errors G P mem 462 [(0, .ref (gA G 0)), (1, .int a1)] [] := by
  refine x_aload_n (pc := 462) dL_errors_462 0 rfl rfl ?_
  refine x_iload_n (pc := 463) dL_errors_463 1 rfl rfl ?_
  refine x_iconst (pc := 464) (v := 0) dL_errors_464 (by decide) ?_
  obtain ⟨Q1, hc2, h⟩ := h
  refine x_callVI (pc := 465) 0 hc2 ok_X6_possibleWeights dL_errors_465 tb_563 ⟨⟨rfl, rfl⟩, ⟨by decide, by decide⟩, by decide, by decide⟩ (mK hG (by decide)) (mc_0 hG _) rfl (As := [.int a1, .int 0]) rfl rfl (Nat.le_of_ble_eq_true rfl) (fun r3 m4 q5 => ?_)
  have h := h r3 m4 q5
  refine x_iconst (pc := 468) (v := (-1)) dL_errors_468 (by decide) ?_
  refine x_icmp_ne (pc := 469) (tgt := 576) dL_errors_469 (by decide) (fun c6 => ?_) (fun c6 => ?_)
  · have h := h.1 c6
    exact x_sub [] rfl h
  · have h := h.2 c6
    refine x_aload_n (pc := 472) dL_errors_472 0 rfl rfl ?_
    refine x_iconst (pc := 473) (v := 0) dL_errors_473 (by decide) ?_
    refine x_iconst (pc := 474) (v := 0) dL_errors_474 (by decide) ?_
    obtain ⟨Q7, hc8, h⟩ := h
    refine x_callVI (pc := 475) 0 hc8 ok_X6_possibleWeights dL_errors_475 tb_563 ⟨⟨rfl, rfl⟩, ⟨by decide, by decide⟩, by decide, by decide⟩ (mK hG (by decide)) (mc_0 hG _) rfl (As := [.int 0, .int 0]) rfl rfl (Nat.le_of_ble_eq_true rfl) (fun r9 m10 q11 => ?_)
    have h := h r9 m10 q11
    refine x_bipush (pc := 478) (v := (-3)) dL_errors_478 (by decide) ?_
    refine x_icmp_ne (pc := 480) (tgt := 576) dL_errors_480 (by decide) (fun c12 => ?_) (fun c12 => ?_)
    · have h := h.1 c12
      exact x_sub [] rfl h
    · have h := h.2 c12
      refine x_aload_n (pc := 483) dL_errors_483 0 rfl rfl ?_
      refine x_iconst (pc := 484) (v := 0) dL_errors_484 (by decide) ?_
      refine x_lconst (pc := 485) (v := 0) dL_errors_485 rfl ?_
      obtain ⟨Q13, hc14, h⟩ := h
      refine x_callVI (pc := 486) 0 hc14 ok_X6_runScript dL_errors_486 tb_582 ⟨⟨rfl, rfl⟩, ⟨by decide, by decide⟩, by decide, by decide⟩ (mK hG (by decide)) (mc_0 hG _) rfl (As := [.int 0, .long 0]) rfl rfl (Nat.le_of_ble_eq_true rfl) (fun r15 m16 q17 => ?_)
      have h := h r15 m16 q17
      refine x_bipush (pc := 489) (v := (-2)) dL_errors_489 (by decide) ?_
      refine x_icmp_ne (pc := 491) (tgt := 576) dL_errors_491 (by decide) (fun c18 => ?_) (fun c18 => ?_)
      · have h := h.1 c18
        exact x_sub [] rfl h
      · have h := h.2 c18
        refine x_aload_n (pc := 494) dL_errors_494 0 rfl rfl ?_
        refine x_iconst (pc := 495) (v := 4) dL_errors_495 (by decide) ?_
        refine x_lconst (pc := 496) (v := 0) dL_errors_496 rfl ?_
        obtain ⟨Q19, hc20, h⟩ := h
        refine x_callVI (pc := 497) 0 hc20 ok_X6_runScript dL_errors_497 tb_582 ⟨⟨rfl, rfl⟩, ⟨by decide, by decide⟩, by decide, by decide⟩ (mK hG (by decide)) (mc_0 hG _) rfl (As := [.int 4, .long 0]) rfl rfl (Nat.le_of_ble_eq_true rfl) (fun r21 m22 q23 => ?_)
        have h := h r21 m22 q23
        refine x_bipush (pc := 500) (v := (-2)) dL_errors_500 (by decide) ?_
        refine x_icmp_ne (pc := 502) (tgt := 576) dL_errors_502 (by decide) (fun c24 => ?_) (fun c24 => ?_)
        · have h := h.1 c24
          exact x_sub [] rfl h
        · have h := h.2 c24
          refine x_aload_n (pc := 505) dL_errors_505 0 rfl rfl ?_
          refine x_iconst (pc := 506) (v := 1) dL_errors_506 (by decide) ?_
          refine x_ldc2 (pc := 507) (v := 100000) dL_errors_507 tb_608 ?_
          obtain ⟨Q25, hc26, h⟩ := h
          refine x_callVI (pc := 510) 0 hc26 ok_X6_runScript dL_errors_510 tb_582 ⟨⟨rfl, rfl⟩, ⟨by decide, by decide⟩, by decide, by decide⟩ (mK hG (by decide)) (mc_0 hG _) rfl (As := [.int 1, .long 100000]) rfl rfl (Nat.le_of_ble_eq_true rfl) (fun r27 m28 q29 => ?_)
          have h := h r27 m28 q29
          refine x_bipush (pc := 513) (v := (-2)) dL_errors_513 (by decide) ?_
          refine x_icmp_ne (pc := 515) (tgt := 576) dL_errors_515 (by decide) (fun c30 => ?_) (fun c30 => ?_)
          · have h := h.1 c30
            exact x_sub [] rfl h
          · have h := h.2 c30
            refine x_aload_n (pc := 518) dL_errors_518 0 rfl rfl ?_
            refine x_iconst (pc := 519) (v := 1) dL_errors_519 (by decide) ?_
            refine x_ldc2 (pc := 520) (v := (-1)) dL_errors_520 tb_552 ?_
            obtain ⟨Q31, hc32, h⟩ := h
            refine x_callVI (pc := 523) 0 hc32 ok_X6_runScript dL_errors_523 tb_582 ⟨⟨rfl, rfl⟩, ⟨by decide, by decide⟩, by decide, by decide⟩ (mK hG (by decide)) (mc_0 hG _) rfl (As := [.int 1, .long (-1)]) rfl rfl (Nat.le_of_ble_eq_true rfl) (fun r33 m34 q35 => ?_)
            have h := h r33 m34 q35
            refine x_bipush (pc := 526) (v := (-2)) dL_errors_526 (by decide) ?_
            refine x_icmp_ne (pc := 528) (tgt := 576) dL_errors_528 (by decide) (fun c36 => ?_) (fun c36 => ?_)
            · have h := h.1 c36
              exact x_sub [] rfl h
            · have h := h.2 c36
              exact x_sub [0] rfl h
set_option maxRecDepth 100000 in
set_option maxHeartbeats 4000000 in
theorem t_L_errors_531 {l : Launch} {G : Gx} {P : Int32 → Mem → Prop} (hG : Mn G)  (mem : Mem)
    (h : ∃ Q1 : Int32 → Mem → Prop, CtI l M_X6_randomChanges G [.ref (gA G 0), .long 1, .int 0] mem Q1 ∧ ∀ (r3 : Int32) (m4 : Mem), Q1 r3 m4 → ((¬ r3 = (-2) → (XI l M_L_errors G P m4 576 [] [])) ∧ (r3 = (-2) → (∃ Q7 : Int32 → Mem → Prop, CtI l M_X6_randomChanges G [.ref (gA G 0), .long 1, .int 61] m4 Q7 ∧ ∀ (r9 : Int32) (m10 : Mem), Q7 r9 m10 → ((¬ r9 = (-2) → (XI l M_L_errors G P m10 576 [] [])) ∧ (r9 = (-2) → (∃ Q13 : Int32 → Mem → Prop, CtI l M_X6_save G [.ref (gA G 0), .int 2] m10 Q13 ∧ ∀ (r15 : Int32) (m16 : Mem), Q13 r15 m16 → ((¬ r15 = (-1) → (XI l M_L_errors G P m16 576 [] [])) ∧ (r15 = (-1) → (∃ Q19 : Int32 → Mem → Prop, CtI l M_X6_restore G [.ref (gA G 0), .int (-1)] m16 Q19 ∧ ∀ (r21 : Int32) (m22 : Mem), Q19 r21 m22 → ((¬ r21 = (-1) → (XI l M_L_errors G P m22 576 [] [])) ∧ (r21 = (-1) → (P 1 m22))))))))))))) :
    XI l M_L_errors G P mem 531 [(0, .ref (gA G 0))] [] := by
  refine x_aload_n (pc := 531) dL_errors_531 0 rfl rfl ?_
  refine x_lconst (pc := 532) (v := 1) dL_errors_532 rfl ?_
  refine x_iconst (pc := 533) (v := 0) dL_errors_533 (by decide) ?_
  obtain ⟨Q1, hc2, h⟩ := h
  refine x_callVI (pc := 534) 0 hc2 ok_X6_randomChanges dL_errors_534 tb_609 ⟨⟨rfl, rfl⟩, ⟨by decide, by decide⟩, by decide, by decide⟩ (mK hG (by decide)) (mc_0 hG _) rfl (As := [.long 1, .int 0]) rfl rfl (Nat.le_of_ble_eq_true rfl) (fun r3 m4 q5 => ?_)
  have h := h r3 m4 q5
  refine x_bipush (pc := 537) (v := (-2)) dL_errors_537 (by decide) ?_
  refine x_icmp_ne (pc := 539) (tgt := 576) dL_errors_539 (by decide) (fun c6 => ?_) (fun c6 => ?_)
  · have h := h.1 c6
    exact x_sub [] rfl h
  · have h := h.2 c6
    refine x_aload_n (pc := 542) dL_errors_542 0 rfl rfl ?_
    refine x_lconst (pc := 543) (v := 1) dL_errors_543 rfl ?_
    refine x_bipush (pc := 544) (v := 61) dL_errors_544 (by decide) ?_
    obtain ⟨Q7, hc8, h⟩ := h
    refine x_callVI (pc := 546) 0 hc8 ok_X6_randomChanges dL_errors_546 tb_609 ⟨⟨rfl, rfl⟩, ⟨by decide, by decide⟩, by decide, by decide⟩ (mK hG (by decide)) (mc_0 hG _) rfl (As := [.long 1, .int 61]) rfl rfl (Nat.le_of_ble_eq_true rfl) (fun r9 m10 q11 => ?_)
    have h := h r9 m10 q11
    refine x_bipush (pc := 549) (v := (-2)) dL_errors_549 (by decide) ?_
    refine x_icmp_ne (pc := 551) (tgt := 576) dL_errors_551 (by decide) (fun c12 => ?_) (fun c12 => ?_)
    · have h := h.1 c12
      exact x_sub [] rfl h
    · have h := h.2 c12
      refine x_aload_n (pc := 554) dL_errors_554 0 rfl rfl ?_
      refine x_iconst (pc := 555) (v := 2) dL_errors_555 (by decide) ?_
      obtain ⟨Q13, hc14, h⟩ := h
      refine x_callVI (pc := 556) 0 hc14 ok_X6_save dL_errors_556 tb_620 ⟨⟨rfl, rfl⟩, ⟨by decide, by decide⟩, by decide, by decide⟩ (mK hG (by decide)) (mc_0 hG _) rfl (As := [.int 2]) rfl rfl (Nat.le_of_ble_eq_true rfl) (fun r15 m16 q17 => ?_)
      have h := h r15 m16 q17
      refine x_iconst (pc := 559) (v := (-1)) dL_errors_559 (by decide) ?_
      refine x_icmp_ne (pc := 560) (tgt := 576) dL_errors_560 (by decide) (fun c18 => ?_) (fun c18 => ?_)
      · have h := h.1 c18
        exact x_sub [] rfl h
      · have h := h.2 c18
        refine x_aload_n (pc := 563) dL_errors_563 0 rfl rfl ?_
        refine x_iconst (pc := 564) (v := (-1)) dL_errors_564 (by decide) ?_
        obtain ⟨Q19, hc20, h⟩ := h
        refine x_callVI (pc := 565) 0 hc20 ok_X6_restore dL_errors_565 tb_624 ⟨⟨rfl, rfl⟩, ⟨by decide, by decide⟩, by decide, by decide⟩ (mK hG (by decide)) (mc_0 hG _) rfl (As := [.int (-1)]) rfl rfl (Nat.le_of_ble_eq_true rfl) (fun r21 m22 q23 => ?_)
        have h := h r21 m22 q23
        refine x_iconst (pc := 568) (v := (-1)) dL_errors_568 (by decide) ?_
        refine x_icmp_ne (pc := 569) (tgt := 576) dL_errors_569 (by decide) (fun c24 => ?_) (fun c24 => ?_)
        · have h := h.1 c24
          exact x_sub [] rfl h
        · have h := h.2 c24
          refine x_iconst (pc := 572) (v := 1) dL_errors_572 (by decide) ?_
          refine x_goto (pc := 573) (tgt := 577) dL_errors_573 (by decide) ?_
          exact x_endZ (pc := 577) dL_errors_577 rfl (Or.inr rfl) h
set_option maxRecDepth 100000 in
set_option maxHeartbeats 4000000 in
theorem t_L_errors_576 {l : Launch} {G : Gx} {P : Int32 → Mem → Prop} (hG : Mn G)  (mem : Mem)
    (h : P 0 mem) :
    XI l M_L_errors G P mem 576 [] [] := by
  refine x_iconst (pc := 576) (v := 0) dL_errors_576 (by decide) ?_
  exact x_endZ (pc := 577) dL_errors_577 rfl (Or.inl rfl) h
set_option maxRecDepth 100000 in
set_option maxHeartbeats 4000000 in
theorem t_L_alike_0 {l : Launch} {G : Gx} {P : Int32 → Mem → Prop} (hG : M2 G)  (mem : Mem)
    (h : ∃ Q1 : Int64 → Mem → Prop, CtL l M_L_now G [.ref (gA G 0)] mem Q1 ∧ ∀ (r3 : Int64) (m4 : Mem), Q1 r3 m4 → (∃ Q6 : Int64 → Mem → Prop, CtL l M_L_now G [.ref (gA G 327)] m4 Q6 ∧ ∀ (r8 : Int64) (m9 : Mem), Q6 r8 m9 → ((¬ (lg_cmp r3 r8) = 0 → (XI l M_L_alike G P m9 48 [(0, .ref (gA G 0)), (1, .ref (gA G 327))] [])) ∧ ((lg_cmp r3 r8) = 0 → (∃ Q12 : Int32 → Mem → Prop, CtI l M_X6_errorPosition G [.ref (gA G 0)] m9 Q12 ∧ ∀ (r14 : Int32) (m15 : Mem), Q12 r14 m15 → (∃ Q17 : Int32 → Mem → Prop, CtI l M_X6_errorPosition G [.ref (gA G 327)] m15 Q17 ∧ ∀ (r19 : Int32) (m20 : Mem), Q17 r19 m20 → ((¬ r14 = r19 → (XI l M_L_alike G P m20 48 [(0, .ref (gA G 0)), (1, .ref (gA G 327))] [])) ∧ (r14 = r19 → (∃ Q23 : Int32 → Mem → Prop, CtI l M_X6_randomChanges G [.ref (gA G 0), .long 5, .int 9] m20 Q23 ∧ ∀ (r25 : Int32) (m26 : Mem), Q23 r25 m26 → (∃ Q28 : Int32 → Mem → Prop, CtI l M_X6_randomChanges G [.ref (gA G 327), .long 5, .int 9] m26 Q28 ∧ ∀ (r30 : Int32) (m31 : Mem), Q28 r30 m31 → ((¬ r25 = r30 → (XI l M_L_alike G P m31 48 [(0, .ref (gA G 0)), (1, .ref (gA G 327))] [])) ∧ (r25 = r30 → (XI l M_L_alike G P m31 44 [(0, .ref (gA G 0)), (1, .ref (gA G 327))] []))))))))))))) :
    XI l M_L_alike G P mem 0 [(0, .ref (gA G 0)), (1, .ref (gA G 327))] [] := by
  refine x_aload_n (pc := 0) dL_alike_0 0 rfl rfl ?_
  obtain ⟨Q1, hc2, h⟩ := h
  refine x_callSL (pc := 1) hc2 ok_L_now dL_alike_1 tb_747 ⟨⟨rfl, rfl⟩, ⟨by decide, by decide⟩, by decide, by decide⟩ rfl rfl (Nat.le_of_ble_eq_true rfl) (fun r3 m4 q5 => ?_)
  have h := h r3 m4 q5
  refine x_aload_n (pc := 4) dL_alike_4 1 rfl rfl ?_
  obtain ⟨Q6, hc7, h⟩ := h
  refine x_callSL (pc := 5) hc7 ok_L_now dL_alike_5 tb_747 ⟨⟨rfl, rfl⟩, ⟨by decide, by decide⟩, by decide, by decide⟩ rfl rfl (Nat.le_of_ble_eq_true rfl) (fun r8 m9 q10 => ?_)
  have h := h r8 m9 q10
  refine x_lcmp (pc := 8) dL_alike_8 ?_
  refine x_if_ne (pc := 9) (tgt := 48) dL_alike_9 (by decide) (fun c11 => ?_) (fun c11 => ?_)
  · have h := h.1 c11
    exact x_sub [0, 1] rfl h
  · have h := h.2 c11
    refine x_aload_n (pc := 12) dL_alike_12 0 rfl rfl ?_
    obtain ⟨Q12, hc13, h⟩ := h
    refine x_callVI (pc := 13) 0 hc13 ok_X6_errorPosition dL_alike_13 tb_754 ⟨⟨rfl, rfl⟩, ⟨by decide, by decide⟩, by decide, by decide⟩ (mK2 hG (by decide)) (m2_0 hG _) rfl (As := []) rfl rfl (Nat.le_of_ble_eq_true rfl) (fun r14 m15 q16 => ?_)
    have h := h r14 m15 q16
    refine x_aload_n (pc := 16) dL_alike_16 1 rfl rfl ?_
    obtain ⟨Q17, hc18, h⟩ := h
    refine x_callVI (pc := 17) 327 hc18 ok_X6_errorPosition dL_alike_17 tb_754 ⟨⟨rfl, rfl⟩, ⟨by decide, by decide⟩, by decide, by decide⟩ (mK2 hG (by decide)) (m2_327 hG _) rfl (As := []) rfl rfl (Nat.le_of_ble_eq_true rfl) (fun r19 m20 q21 => ?_)
    have h := h r19 m20 q21
    refine x_icmp_ne (pc := 20) (tgt := 48) dL_alike_20 (by decide) (fun c22 => ?_) (fun c22 => ?_)
    · have h := h.1 c22
      exact x_sub [0, 1] rfl h
    · have h := h.2 c22
      refine x_aload_n (pc := 23) dL_alike_23 0 rfl rfl ?_
      refine x_ldc2 (pc := 24) (v := 5) dL_alike_24 tb_758 ?_
      refine x_bipush (pc := 27) (v := 9) dL_alike_27 (by decide) ?_
      obtain ⟨Q23, hc24, h⟩ := h
      refine x_callVI (pc := 29) 0 hc24 ok_X6_randomChanges dL_alike_29 tb_609 ⟨⟨rfl, rfl⟩, ⟨by decide, by decide⟩, by decide, by decide⟩ (mK2 hG (by decide)) (m2_0 hG _) rfl (As := [.long 5, .int 9]) rfl rfl (Nat.le_of_ble_eq_true rfl) (fun r25 m26 q27 => ?_)
      have h := h r25 m26 q27
      refine x_aload_n (pc := 32) dL_alike_32 1 rfl rfl ?_
      refine x_ldc2 (pc := 33) (v := 5) dL_alike_33 tb_758 ?_
      refine x_bipush (pc := 36) (v := 9) dL_alike_36 (by decide) ?_
      obtain ⟨Q28, hc29, h⟩ := h
      refine x_callVI (pc := 38) 327 hc29 ok_X6_randomChanges dL_alike_38 tb_609 ⟨⟨rfl, rfl⟩, ⟨by decide, by decide⟩, by decide, by decide⟩ (mK2 hG (by decide)) (m2_327 hG _) rfl (As := [.long 5, .int 9]) rfl rfl (Nat.le_of_ble_eq_true rfl) (fun r30 m31 q32 => ?_)
      have h := h r30 m31 q32
      refine x_icmp_ne (pc := 41) (tgt := 48) dL_alike_41 (by decide) (fun c33 => ?_) (fun c33 => ?_)
      · have h := h.1 c33
        exact x_sub [0, 1] rfl h
      · have h := h.2 c33
        exact x_sub [0, 1] rfl h
set_option maxRecDepth 100000 in
set_option maxHeartbeats 4000000 in
theorem t_L_alike_44 {l : Launch} {G : Gx} {P : Int32 → Mem → Prop} (hG : M2 G)  (mem : Mem)
    (h : XI l M_L_alike G P mem 50 [(0, .ref (gA G 0)), (1, .ref (gA G 327)), (2, .int 1)] []) :
    XI l M_L_alike G P mem 44 [(0, .ref (gA G 0)), (1, .ref (gA G 327))] [] := by
  refine x_iconst (pc := 44) (v := 1) dL_alike_44 (by decide) ?_
  refine x_goto (pc := 45) (tgt := 49) dL_alike_45 (by decide) ?_
  refine x_istore_n (pc := 49) dL_alike_49 rfl (by decide) rfl ?_
  exact x_sub [1, 2, 0] rfl h
set_option maxRecDepth 100000 in
set_option maxHeartbeats 4000000 in
theorem t_L_alike_48 {l : Launch} {G : Gx} {P : Int32 → Mem → Prop} (hG : M2 G)  (mem : Mem)
    (h : XI l M_L_alike G P mem 50 [(0, .ref (gA G 0)), (1, .ref (gA G 327)), (2, .int 0)] []) :
    XI l M_L_alike G P mem 48 [(0, .ref (gA G 0)), (1, .ref (gA G 327))] [] := by
  refine x_iconst (pc := 48) (v := 0) dL_alike_48 (by decide) ?_
  refine x_istore_n (pc := 49) dL_alike_49 rfl (by decide) rfl ?_
  exact x_sub [1, 2, 0] rfl h
set_option maxRecDepth 100000 in
set_option maxHeartbeats 4000000 in
theorem t_L_alike_50 {l : Launch} {G : Gx} {P : Int32 → Mem → Prop} (hG : M2 G) (a2 : Int32) (mem : Mem)
    (h : XI l M_L_alike G P mem 52 [(0, .ref (gA G 0)), (1, .ref (gA G 327)), (2, .int a2), (3, .int 0)] []) :
    XI l M_L_alike G P mem 50 [(0, .ref (gA G 0)), (1, .ref (gA G 327)), (2, .int a2)] [] := by
  refine x_iconst (pc := 50) (v := 0) dL_alike_50 (by decide) ?_
  refine x_istore_n (pc := 51) dL_alike_51 rfl (by decide) rfl ?_
  exact x_sub [1, 2, 3, 0] rfl h
set_option maxRecDepth 100000 in
set_option maxHeartbeats 4000000 in
theorem t_L_alike_52 {l : Launch} {G : Gx} {P : Int32 → Mem → Prop} (hG : M2 G) (a2 : Int32) (a3 : Int32) (mem : Mem)
    (h : (12 ≤ a3 → ((a2 = 0 ∨ a2 = 1) ∧ P a2 mem)) ∧ (¬ 12 ≤ a3 → ((a2 = 0 → (XI l M_L_alike G P mem 289 [(0, .ref (gA G 0)), (1, .ref (gA G 327)), (3, .int a3)] [])) ∧ (¬ a2 = 0 → (∃ Q3 : Int32 → Mem → Prop, CtI l M_X6_treeOf G [.ref (gA G 0), .int a3] mem Q3 ∧ ∀ (r5 : Int32) (m6 : Mem), Q3 r5 m6 → (∃ Q8 : Int32 → Mem → Prop, CtI l M_X6_treeOf G [.ref (gA G 327), .int a3] m6 Q8 ∧ ∀ (r10 : Int32) (m11 : Mem), Q8 r10 m11 → ((¬ r5 = r10 → (XI l M_L_alike G P m11 289 [(0, .ref (gA G 0)), (1, .ref (gA G 327)), (3, .int a3)] [])) ∧ (r5 = r10 → (∃ Q14 : Int32 → Mem → Prop, CtI l M_X6_eccentricity G [.ref (gA G 0), .int a3] m11 Q14 ∧ ∀ (r16 : Int32) (m17 : Mem), Q14 r16 m17 → (∃ Q19 : Int32 → Mem → Prop, CtI l M_X6_eccentricity G [.ref (gA G 327), .int a3] m17 Q19 ∧ ∀ (r21 : Int32) (m22 : Mem), Q19 r21 m22 → ((¬ r16 = r21 → (XI l M_L_alike G P m22 289 [(0, .ref (gA G 0)), (1, .ref (gA G 327)), (3, .int a3)] [])) ∧ (r16 = r21 → (∃ Q25 : Int32 → Mem → Prop, CtI l M_X6_diameter G [.ref (gA G 0), .int a3] m22 Q25 ∧ ∀ (r27 : Int32) (m28 : Mem), Q25 r27 m28 → (∃ Q30 : Int32 → Mem → Prop, CtI l M_X6_diameter G [.ref (gA G 327), .int a3] m28 Q30 ∧ ∀ (r32 : Int32) (m33 : Mem), Q30 r32 m33 → ((¬ r27 = r32 → (XI l M_L_alike G P m33 289 [(0, .ref (gA G 0)), (1, .ref (gA G 327)), (3, .int a3)] [])) ∧ (r27 = r32 → (XI l M_L_alike G P m33 101 [(0, .ref (gA G 0)), (1, .ref (gA G 327)), (3, .int a3)] []))))))))))))))))) :
    XI l M_L_alike G P mem 52 [(0, .ref (gA G 0)), (1, .ref (gA G 327)), (2, .int a2), (3, .int a3)] [] := by
  refine x_iload_n (pc := 52) dL_alike_52 3 rfl rfl ?_
  refine x_bipush (pc := 53) (v := 12) dL_alike_53 (by decide) ?_
  refine x_icmp_ge (pc := 55) (tgt := 297) dL_alike_55 (by decide) (fun c1 => ?_) (fun c1 => ?_)
  · have h := h.1 c1
    refine x_iload_n (pc := 297) dL_alike_297 2 rfl rfl ?_
    exact x_endZ (pc := 298) dL_alike_298 rfl h.1 h.2
  · have h := h.2 c1
    refine x_iload_n (pc := 58) dL_alike_58 2 rfl rfl ?_
    refine x_if_eq (pc := 59) (tgt := 289) dL_alike_59 (by decide) (fun c2 => ?_) (fun c2 => ?_)
    · have h := h.1 c2
      exact x_sub [0, 1, 3] rfl h
    · have h := h.2 c2
      refine x_aload_n (pc := 62) dL_alike_62 0 rfl rfl ?_
      refine x_iload_n (pc := 63) dL_alike_63 3 rfl rfl ?_
      obtain ⟨Q3, hc4, h⟩ := h
      refine x_callVI (pc := 64) 0 hc4 ok_X6_treeOf dL_alike_64 tb_277 ⟨⟨rfl, rfl⟩, ⟨by decide, by decide⟩, by decide, by decide⟩ (mK2 hG (by decide)) (m2_0 hG _) rfl (As := [.int a3]) rfl rfl (Nat.le_of_ble_eq_true rfl) (fun r5 m6 q7 => ?_)
      have h := h r5 m6 q7
      refine x_aload_n (pc := 67) dL_alike_67 1 rfl rfl ?_
      refine x_iload_n (pc := 68) dL_alike_68 3 rfl rfl ?_
      obtain ⟨Q8, hc9, h⟩ := h
      refine x_callVI (pc := 69) 327 hc9 ok_X6_treeOf dL_alike_69 tb_277 ⟨⟨rfl, rfl⟩, ⟨by decide, by decide⟩, by decide, by decide⟩ (mK2 hG (by decide)) (m2_327 hG _) rfl (As := [.int a3]) rfl rfl (Nat.le_of_ble_eq_true rfl) (fun r10 m11 q12 => ?_)
      have h := h r10 m11 q12
      refine x_icmp_ne (pc := 72) (tgt := 289) dL_alike_72 (by decide) (fun c13 => ?_) (fun c13 => ?_)
      · have h := h.1 c13
        exact x_sub [0, 1, 3] rfl h
      · have h := h.2 c13
        refine x_aload_n (pc := 75) dL_alike_75 0 rfl rfl ?_
        refine x_iload_n (pc := 76) dL_alike_76 3 rfl rfl ?_
        obtain ⟨Q14, hc15, h⟩ := h
        refine x_callVI (pc := 77) 0 hc15 ok_X6_eccentricity dL_alike_77 tb_374 ⟨⟨rfl, rfl⟩, ⟨by decide, by decide⟩, by decide, by decide⟩ (mK2 hG (by decide)) (m2_0 hG _) rfl (As := [.int a3]) rfl rfl (Nat.le_of_ble_eq_true rfl) (fun r16 m17 q18 => ?_)
        have h := h r16 m17 q18
        refine x_aload_n (pc := 80) dL_alike_80 1 rfl rfl ?_
        refine x_iload_n (pc := 81) dL_alike_81 3 rfl rfl ?_
        obtain ⟨Q19, hc20, h⟩ := h
        refine x_callVI (pc := 82) 327 hc20 ok_X6_eccentricity dL_alike_82 tb_374 ⟨⟨rfl, rfl⟩, ⟨by decide, by decide⟩, by decide, by decide⟩ (mK2 hG (by decide)) (m2_327 hG _) rfl (As := [.int a3]) rfl rfl (Nat.le_of_ble_eq_true rfl) (fun r21 m22 q23 => ?_)
        have h := h r21 m22 q23
        refine x_icmp_ne (pc := 85) (tgt := 289) dL_alike_85 (by decide) (fun c24 => ?_) (fun c24 => ?_)
        · have h := h.1 c24
          exact x_sub [0, 1, 3] rfl h
        · have h := h.2 c24
          refine x_aload_n (pc := 88) dL_alike_88 0 rfl rfl ?_
          refine x_iload_n (pc := 89) dL_alike_89 3 rfl rfl ?_
          obtain ⟨Q25, hc26, h⟩ := h
          refine x_callVI (pc := 90) 0 hc26 ok_X6_diameter dL_alike_90 tb_386 ⟨⟨rfl, rfl⟩, ⟨by decide, by decide⟩, by decide, by decide⟩ (mK2 hG (by decide)) (m2_0 hG _) rfl (As := [.int a3]) rfl rfl (Nat.le_of_ble_eq_true rfl) (fun r27 m28 q29 => ?_)
          have h := h r27 m28 q29
          refine x_aload_n (pc := 93) dL_alike_93 1 rfl rfl ?_
          refine x_iload_n (pc := 94) dL_alike_94 3 rfl rfl ?_
          obtain ⟨Q30, hc31, h⟩ := h
          refine x_callVI (pc := 95) 327 hc31 ok_X6_diameter dL_alike_95 tb_386 ⟨⟨rfl, rfl⟩, ⟨by decide, by decide⟩, by decide, by decide⟩ (mK2 hG (by decide)) (m2_327 hG _) rfl (As := [.int a3]) rfl rfl (Nat.le_of_ble_eq_true rfl) (fun r32 m33 q34 => ?_)
          have h := h r32 m33 q34
          refine x_icmp_ne (pc := 98) (tgt := 289) dL_alike_98 (by decide) (fun c35 => ?_) (fun c35 => ?_)
          · have h := h.1 c35
            exact x_sub [0, 1, 3] rfl h
          · have h := h.2 c35
            exact x_sub [0, 1, 3] rfl h
set_option maxRecDepth 100000 in
set_option maxHeartbeats 4000000 in
theorem t_L_alike_101 {l : Launch} {G : Gx} {P : Int32 → Mem → Prop} (hG : M2 G) (a3 : Int32) (mem : Mem)
    (h : ∃ Q1 : Int32 → Mem → Prop, CtI l M_X6_diameterEnd G [.ref (gA G 0), .int a3, .int (a3 - a3 / 2 * 2)] mem Q1 ∧ ∀ (r3 : Int32) (m4 : Mem), Q1 r3 m4 → (∃ Q6 : Int32 → Mem → Prop, CtI l M_X6_diameterEnd G [.ref (gA G 327), .int a3, .int (a3 - a3 / 2 * 2)] m4 Q6 ∧ ∀ (r8 : Int32) (m9 : Mem), Q6 r8 m9 → ((¬ r3 = r8 → (XI l M_L_alike G P m9 289 [(0, .ref (gA G 0)), (1, .ref (gA G 327)), (3, .int a3)] [])) ∧ (r3 = r8 → (∃ Q12 : Int32 → Mem → Prop, CtI l M_X6_centre G [.ref (gA G 0), .int a3] m9 Q12 ∧ ∀ (r14 : Int32) (m15 : Mem), Q12 r14 m15 → (∃ Q17 : Int32 → Mem → Prop, CtI l M_X6_centre G [.ref (gA G 327), .int a3] m15 Q17 ∧ ∀ (r19 : Int32) (m20 : Mem), Q17 r19 m20 → ((¬ r14 = r19 → (XI l M_L_alike G P m20 289 [(0, .ref (gA G 0)), (1, .ref (gA G 327)), (3, .int a3)] [])) ∧ (r14 = r19 → (∃ Q23 : Int32 → Mem → Prop, CtI l M_X6_median G [.ref (gA G 0), .int a3] m20 Q23 ∧ ∀ (r25 : Int32) (m26 : Mem), Q23 r25 m26 → (∃ Q28 : Int32 → Mem → Prop, CtI l M_X6_median G [.ref (gA G 327), .int a3] m26 Q28 ∧ ∀ (r30 : Int32) (m31 : Mem), Q28 r30 m31 → ((¬ r25 = r30 → (XI l M_L_alike G P m31 289 [(0, .ref (gA G 0)), (1, .ref (gA G 327)), (3, .int a3)] [])) ∧ (r25 = r30 → (XI l M_L_alike G P m31 146 [(0, .ref (gA G 0)), (1, .ref (gA G 327)), (3, .int a3)] []))))))))))))) :
    XI l M_L_alike G P mem 101 [(0, .ref (gA G 0)), (1, .ref (gA G 327)), (3, .int a3)] [] := by
  refine x_aload_n (pc := 101) dL_alike_101 0 rfl rfl ?_
  refine x_iload_n (pc := 102) dL_alike_102 2 rfl rfl ?_
  refine x_iload_n (pc := 103) dL_alike_103 2 rfl rfl ?_
  refine x_iconst (pc := 104) (v := 2) dL_alike_104 (by decide) ?_
  refine x_irem (pc := 105) dL_alike_105 (by decide) ?_
  obtain ⟨Q1, hc2, h⟩ := h
  refine x_callVI (pc := 106) 0 hc2 ok_X6_diameterEnd dL_alike_106 tb_399 ⟨⟨rfl, rfl⟩, ⟨by decide, by decide⟩, by decide, by decide⟩ (mK2 hG (by decide)) (m2_0 hG _) rfl (As := [.int a3, .int (a3 - a3 / 2 * 2)]) rfl rfl (Nat.le_of_ble_eq_true rfl) (fun r3 m4 q5 => ?_)
  have h := h r3 m4 q5
  refine x_aload_n (pc := 109) dL_alike_109 1 rfl rfl ?_
  refine x_iload_n (pc := 110) dL_alike_110 2 rfl rfl ?_
  refine x_iload_n (pc := 111) dL_alike_111 2 rfl rfl ?_
  refine x_iconst (pc := 112) (v := 2) dL_alike_112 (by decide) ?_
  refine x_irem (pc := 113) dL_alike_113 (by decide) ?_
  obtain ⟨Q6, hc7, h⟩ := h
  refine x_callVI (pc := 114) 327 hc7 ok_X6_diameterEnd dL_alike_114 tb_399 ⟨⟨rfl, rfl⟩, ⟨by decide, by decide⟩, by decide, by decide⟩ (mK2 hG (by decide)) (m2_327 hG _) rfl (As := [.int a3, .int (a3 - a3 / 2 * 2)]) rfl rfl (Nat.le_of_ble_eq_true rfl) (fun r8 m9 q10 => ?_)
  have h := h r8 m9 q10
  refine x_icmp_ne (pc := 117) (tgt := 289) dL_alike_117 (by decide) (fun c11 => ?_) (fun c11 => ?_)
  · have h := h.1 c11
    exact x_sub [0, 1, 2] rfl h
  · have h := h.2 c11
    refine x_aload_n (pc := 120) dL_alike_120 0 rfl rfl ?_
    refine x_iload_n (pc := 121) dL_alike_121 2 rfl rfl ?_
    obtain ⟨Q12, hc13, h⟩ := h
    refine x_callVI (pc := 122) 0 hc13 ok_X6_centre dL_alike_122 tb_405 ⟨⟨rfl, rfl⟩, ⟨by decide, by decide⟩, by decide, by decide⟩ (mK2 hG (by decide)) (m2_0 hG _) rfl (As := [.int a3]) rfl rfl (Nat.le_of_ble_eq_true rfl) (fun r14 m15 q16 => ?_)
    have h := h r14 m15 q16
    refine x_aload_n (pc := 125) dL_alike_125 1 rfl rfl ?_
    refine x_iload_n (pc := 126) dL_alike_126 2 rfl rfl ?_
    obtain ⟨Q17, hc18, h⟩ := h
    refine x_callVI (pc := 127) 327 hc18 ok_X6_centre dL_alike_127 tb_405 ⟨⟨rfl, rfl⟩, ⟨by decide, by decide⟩, by decide, by decide⟩ (mK2 hG (by decide)) (m2_327 hG _) rfl (As := [.int a3]) rfl rfl (Nat.le_of_ble_eq_true rfl) (fun r19 m20 q21 => ?_)
    have h := h r19 m20 q21
    refine x_icmp_ne (pc := 130) (tgt := 289) dL_alike_130 (by decide) (fun c22 => ?_) (fun c22 => ?_)
    · have h := h.1 c22
      exact x_sub [0, 1, 2] rfl h
    · have h := h.2 c22
      refine x_aload_n (pc := 133) dL_alike_133 0 rfl rfl ?_
      refine x_iload_n (pc := 134) dL_alike_134 2 rfl rfl ?_
      obtain ⟨Q23, hc24, h⟩ := h
      refine x_callVI (pc := 135) 0 hc24 ok_X6_median dL_alike_135 tb_414 ⟨⟨rfl, rfl⟩, ⟨by decide, by decide⟩, by decide, by decide⟩ (mK2 hG (by decide)) (m2_0 hG _) rfl (As := [.int a3]) rfl rfl (Nat.le_of_ble_eq_true rfl) (fun r25 m26 q27 => ?_)
      have h := h r25 m26 q27
      refine x_aload_n (pc := 138) dL_alike_138 1 rfl rfl ?_
      refine x_iload_n (pc := 139) dL_alike_139 2 rfl rfl ?_
      obtain ⟨Q28, hc29, h⟩ := h
      refine x_callVI (pc := 140) 327 hc29 ok_X6_median dL_alike_140 tb_414 ⟨⟨rfl, rfl⟩, ⟨by decide, by decide⟩, by decide, by decide⟩ (mK2 hG (by decide)) (m2_327 hG _) rfl (As := [.int a3]) rfl rfl (Nat.le_of_ble_eq_true rfl) (fun r30 m31 q32 => ?_)
      have h := h r30 m31 q32
      refine x_icmp_ne (pc := 143) (tgt := 289) dL_alike_143 (by decide) (fun c33 => ?_) (fun c33 => ?_)
      · have h := h.1 c33
        exact x_sub [0, 1, 2] rfl h
      · have h := h.2 c33
        exact x_sub [0, 1, 2] rfl h
set_option maxRecDepth 100000 in
set_option maxHeartbeats 4000000 in
theorem t_L_alike_146 {l : Launch} {G : Gx} {P : Int32 → Mem → Prop} (hG : M2 G) (a3 : Int32) (mem : Mem)
    (h : ∃ Q1 : Int32 → Mem → Prop, CtI l M_X6_cost G [.ref (gA G 0), .int a3] mem Q1 ∧ ∀ (r3 : Int32) (m4 : Mem), Q1 r3 m4 → (∃ Q6 : Int32 → Mem → Prop, CtI l M_X6_cost G [.ref (gA G 327), .int a3] m4 Q6 ∧ ∀ (r8 : Int32) (m9 : Mem), Q6 r8 m9 → ((¬ r3 = r8 → (XI l M_L_alike G P m9 289 [(0, .ref (gA G 0)), (1, .ref (gA G 327)), (3, .int a3)] [])) ∧ (r3 = r8 → (∃ Q12 : Int32 → Mem → Prop, CtI l M_X6_rounds G [.ref (gA G 0), .int a3] m9 Q12 ∧ ∀ (r14 : Int32) (m15 : Mem), Q12 r14 m15 → (∃ Q17 : Int32 → Mem → Prop, CtI l M_X6_rounds G [.ref (gA G 327), .int a3] m15 Q17 ∧ ∀ (r19 : Int32) (m20 : Mem), Q17 r19 m20 → ((¬ r14 = r19 → (XI l M_L_alike G P m20 289 [(0, .ref (gA G 0)), (1, .ref (gA G 327)), (3, .int a3)] [])) ∧ (r14 = r19 → (∃ Q23 : Int32 → Mem → Prop, CtI l M_X6_removalRound G [.ref (gA G 0), .int a3] m20 Q23 ∧ ∀ (r25 : Int32) (m26 : Mem), Q23 r25 m26 → (∃ Q28 : Int32 → Mem → Prop, CtI l M_X6_removalRound G [.ref (gA G 327), .int a3] m26 Q28 ∧ ∀ (r30 : Int32) (m31 : Mem), Q28 r30 m31 → ((¬ r25 = r30 → (XI l M_L_alike G P m31 289 [(0, .ref (gA G 0)), (1, .ref (gA G 327)), (3, .int a3)] [])) ∧ (r25 = r30 → (XI l M_L_alike G P m31 185 [(0, .ref (gA G 0)), (1, .ref (gA G 327)), (3, .int a3)] []))))))))))))) :
    XI l M_L_alike G P mem 146 [(0, .ref (gA G 0)), (1, .ref (gA G 327)), (3, .int a3)] [] := by
  refine x_aload_n (pc := 146) dL_alike_146 0 rfl rfl ?_
  refine x_iload_n (pc := 147) dL_alike_147 2 rfl rfl ?_
  obtain ⟨Q1, hc2, h⟩ := h
  refine x_callVI (pc := 148) 0 hc2 ok_X6_cost dL_alike_148 tb_427 ⟨⟨rfl, rfl⟩, ⟨by decide, by decide⟩, by decide, by decide⟩ (mK2 hG (by decide)) (m2_0 hG _) rfl (As := [.int a3]) rfl rfl (Nat.le_of_ble_eq_true rfl) (fun r3 m4 q5 => ?_)
  have h := h r3 m4 q5
  refine x_aload_n (pc := 151) dL_alike_151 1 rfl rfl ?_
  refine x_iload_n (pc := 152) dL_alike_152 2 rfl rfl ?_
  obtain ⟨Q6, hc7, h⟩ := h
  refine x_callVI (pc := 153) 327 hc7 ok_X6_cost dL_alike_153 tb_427 ⟨⟨rfl, rfl⟩, ⟨by decide, by decide⟩, by decide, by decide⟩ (mK2 hG (by decide)) (m2_327 hG _) rfl (As := [.int a3]) rfl rfl (Nat.le_of_ble_eq_true rfl) (fun r8 m9 q10 => ?_)
  have h := h r8 m9 q10
  refine x_icmp_ne (pc := 156) (tgt := 289) dL_alike_156 (by decide) (fun c11 => ?_) (fun c11 => ?_)
  · have h := h.1 c11
    exact x_sub [0, 1, 2] rfl h
  · have h := h.2 c11
    refine x_aload_n (pc := 159) dL_alike_159 0 rfl rfl ?_
    refine x_iload_n (pc := 160) dL_alike_160 2 rfl rfl ?_
    obtain ⟨Q12, hc13, h⟩ := h
    refine x_callVI (pc := 161) 0 hc13 ok_X6_rounds dL_alike_161 tb_444 ⟨⟨rfl, rfl⟩, ⟨by decide, by decide⟩, by decide, by decide⟩ (mK2 hG (by decide)) (m2_0 hG _) rfl (As := [.int a3]) rfl rfl (Nat.le_of_ble_eq_true rfl) (fun r14 m15 q16 => ?_)
    have h := h r14 m15 q16
    refine x_aload_n (pc := 164) dL_alike_164 1 rfl rfl ?_
    refine x_iload_n (pc := 165) dL_alike_165 2 rfl rfl ?_
    obtain ⟨Q17, hc18, h⟩ := h
    refine x_callVI (pc := 166) 327 hc18 ok_X6_rounds dL_alike_166 tb_444 ⟨⟨rfl, rfl⟩, ⟨by decide, by decide⟩, by decide, by decide⟩ (mK2 hG (by decide)) (m2_327 hG _) rfl (As := [.int a3]) rfl rfl (Nat.le_of_ble_eq_true rfl) (fun r19 m20 q21 => ?_)
    have h := h r19 m20 q21
    refine x_icmp_ne (pc := 169) (tgt := 289) dL_alike_169 (by decide) (fun c22 => ?_) (fun c22 => ?_)
    · have h := h.1 c22
      exact x_sub [0, 1, 2] rfl h
    · have h := h.2 c22
      refine x_aload_n (pc := 172) dL_alike_172 0 rfl rfl ?_
      refine x_iload_n (pc := 173) dL_alike_173 2 rfl rfl ?_
      obtain ⟨Q23, hc24, h⟩ := h
      refine x_callVI (pc := 174) 0 hc24 ok_X6_removalRound dL_alike_174 tb_507 ⟨⟨rfl, rfl⟩, ⟨by decide, by decide⟩, by decide, by decide⟩ (mK2 hG (by decide)) (m2_0 hG _) rfl (As := [.int a3]) rfl rfl (Nat.le_of_ble_eq_true rfl) (fun r25 m26 q27 => ?_)
      have h := h r25 m26 q27
      refine x_aload_n (pc := 177) dL_alike_177 1 rfl rfl ?_
      refine x_iload_n (pc := 178) dL_alike_178 2 rfl rfl ?_
      obtain ⟨Q28, hc29, h⟩ := h
      refine x_callVI (pc := 179) 327 hc29 ok_X6_removalRound dL_alike_179 tb_507 ⟨⟨rfl, rfl⟩, ⟨by decide, by decide⟩, by decide, by decide⟩ (mK2 hG (by decide)) (m2_327 hG _) rfl (As := [.int a3]) rfl rfl (Nat.le_of_ble_eq_true rfl) (fun r30 m31 q32 => ?_)
      have h := h r30 m31 q32
      refine x_icmp_ne (pc := 182) (tgt := 289) dL_alike_182 (by decide) (fun c33 => ?_) (fun c33 => ?_)
      · have h := h.1 c33
        exact x_sub [0, 1, 2] rfl h
      · have h := h.2 c33
        exact x_sub [0, 1, 2] rfl h
set_option maxRecDepth 100000 in
set_option maxHeartbeats 4000000 in
theorem t_L_alike_185 {l : Launch} {G : Gx} {P : Int32 → Mem → Prop} (hG : M2 G) (a3 : Int32) (mem : Mem)
    (h : ∃ Q1 : Int32 → Mem → Prop, CtI l M_X6_survivor G [.ref (gA G 0), .int a3] mem Q1 ∧ ∀ (r3 : Int32) (m4 : Mem), Q1 r3 m4 → (∃ Q6 : Int32 → Mem → Prop, CtI l M_X6_survivor G [.ref (gA G 327), .int a3] m4 Q6 ∧ ∀ (r8 : Int32) (m9 : Mem), Q6 r8 m9 → ((¬ r3 = r8 → (XI l M_L_alike G P m9 289 [(0, .ref (gA G 0)), (1, .ref (gA G 327)), (3, .int a3)] [])) ∧ (r3 = r8 → (∃ Q12 : Int32 → Mem → Prop, CtI l M_X6_balancedCut G [.ref (gA G 0), .int a3] m9 Q12 ∧ ∀ (r14 : Int32) (m15 : Mem), Q12 r14 m15 → (∃ Q17 : Int32 → Mem → Prop, CtI l M_X6_balancedCut G [.ref (gA G 327), .int a3] m15 Q17 ∧ ∀ (r19 : Int32) (m20 : Mem), Q17 r19 m20 → ((¬ r14 = r19 → (XI l M_L_alike G P m20 289 [(0, .ref (gA G 0)), (1, .ref (gA G 327)), (3, .int a3)] [])) ∧ (r14 = r19 → (∃ Q23 : Int64 → Mem → Prop, CtL l M_X6_expectedReach G [.ref (gA G 0), .int a3, .int (a3 - a3 / 11 * 11)] m20 Q23 ∧ ∀ (r25 : Int64) (m26 : Mem), Q23 r25 m26 → (∃ Q28 : Int64 → Mem → Prop, CtL l M_X6_expectedReach G [.ref (gA G 327), .int a3, .int (a3 - a3 / 11 * 11)] m26 Q28 ∧ ∀ (r30 : Int64) (m31 : Mem), Q28 r30 m31 → ((¬ (lg_cmp r25 r30) = 0 → (XI l M_L_alike G P m31 289 [(0, .ref (gA G 0)), (1, .ref (gA G 327)), (3, .int a3)] [])) ∧ ((lg_cmp r25 r30) = 0 → (XI l M_L_alike G P m31 233 [(0, .ref (gA G 0)), (1, .ref (gA G 327)), (3, .int a3)] []))))))))))))) :
    XI l M_L_alike G P mem 185 [(0, .ref (gA G 0)), (1, .ref (gA G 327)), (3, .int a3)] [] := by
  refine x_aload_n (pc := 185) dL_alike_185 0 rfl rfl ?_
  refine x_iload_n (pc := 186) dL_alike_186 2 rfl rfl ?_
  obtain ⟨Q1, hc2, h⟩ := h
  refine x_callVI (pc := 187) 0 hc2 ok_X6_survivor dL_alike_187 tb_515 ⟨⟨rfl, rfl⟩, ⟨by decide, by decide⟩, by decide, by decide⟩ (mK2 hG (by decide)) (m2_0 hG _) rfl (As := [.int a3]) rfl rfl (Nat.le_of_ble_eq_true rfl) (fun r3 m4 q5 => ?_)
  have h := h r3 m4 q5
  refine x_aload_n (pc := 190) dL_alike_190 1 rfl rfl ?_
  refine x_iload_n (pc := 191) dL_alike_191 2 rfl rfl ?_
  obtain ⟨Q6, hc7, h⟩ := h
  refine x_callVI (pc := 192) 327 hc7 ok_X6_survivor dL_alike_192 tb_515 ⟨⟨rfl, rfl⟩, ⟨by decide, by decide⟩, by decide, by decide⟩ (mK2 hG (by decide)) (m2_327 hG _) rfl (As := [.int a3]) rfl rfl (Nat.le_of_ble_eq_true rfl) (fun r8 m9 q10 => ?_)
  have h := h r8 m9 q10
  refine x_icmp_ne (pc := 195) (tgt := 289) dL_alike_195 (by decide) (fun c11 => ?_) (fun c11 => ?_)
  · have h := h.1 c11
    exact x_sub [0, 1, 2] rfl h
  · have h := h.2 c11
    refine x_aload_n (pc := 198) dL_alike_198 0 rfl rfl ?_
    refine x_iload_n (pc := 199) dL_alike_199 2 rfl rfl ?_
    obtain ⟨Q12, hc13, h⟩ := h
    refine x_callVI (pc := 200) 0 hc13 ok_X6_balancedCut dL_alike_200 tb_523 ⟨⟨rfl, rfl⟩, ⟨by decide, by decide⟩, by decide, by decide⟩ (mK2 hG (by decide)) (m2_0 hG _) rfl (As := [.int a3]) rfl rfl (Nat.le_of_ble_eq_true rfl) (fun r14 m15 q16 => ?_)
    have h := h r14 m15 q16
    refine x_aload_n (pc := 203) dL_alike_203 1 rfl rfl ?_
    refine x_iload_n (pc := 204) dL_alike_204 2 rfl rfl ?_
    obtain ⟨Q17, hc18, h⟩ := h
    refine x_callVI (pc := 205) 327 hc18 ok_X6_balancedCut dL_alike_205 tb_523 ⟨⟨rfl, rfl⟩, ⟨by decide, by decide⟩, by decide, by decide⟩ (mK2 hG (by decide)) (m2_327 hG _) rfl (As := [.int a3]) rfl rfl (Nat.le_of_ble_eq_true rfl) (fun r19 m20 q21 => ?_)
    have h := h r19 m20 q21
    refine x_icmp_ne (pc := 208) (tgt := 289) dL_alike_208 (by decide) (fun c22 => ?_) (fun c22 => ?_)
    · have h := h.1 c22
      exact x_sub [0, 1, 2] rfl h
    · have h := h.2 c22
      refine x_aload_n (pc := 211) dL_alike_211 0 rfl rfl ?_
      refine x_iload_n (pc := 212) dL_alike_212 2 rfl rfl ?_
      refine x_iload_n (pc := 213) dL_alike_213 2 rfl rfl ?_
      refine x_bipush (pc := 214) (v := 11) dL_alike_214 (by decide) ?_
      refine x_irem (pc := 216) dL_alike_216 (by decide) ?_
      obtain ⟨Q23, hc24, h⟩ := h
      refine x_callVL (pc := 217) 0 hc24 ok_X6_expectedReach dL_alike_217 tb_536 ⟨⟨rfl, rfl⟩, ⟨by decide, by decide⟩, by decide, by decide⟩ (mK2 hG (by decide)) (m2_0 hG _) rfl (As := [.int a3, .int (a3 - a3 / 11 * 11)]) rfl rfl (Nat.le_of_ble_eq_true rfl) (fun r25 m26 q27 => ?_)
      have h := h r25 m26 q27
      refine x_aload_n (pc := 220) dL_alike_220 1 rfl rfl ?_
      refine x_iload_n (pc := 221) dL_alike_221 2 rfl rfl ?_
      refine x_iload_n (pc := 222) dL_alike_222 2 rfl rfl ?_
      refine x_bipush (pc := 223) (v := 11) dL_alike_223 (by decide) ?_
      refine x_irem (pc := 225) dL_alike_225 (by decide) ?_
      obtain ⟨Q28, hc29, h⟩ := h
      refine x_callVL (pc := 226) 327 hc29 ok_X6_expectedReach dL_alike_226 tb_536 ⟨⟨rfl, rfl⟩, ⟨by decide, by decide⟩, by decide, by decide⟩ (mK2 hG (by decide)) (m2_327 hG _) rfl (As := [.int a3, .int (a3 - a3 / 11 * 11)]) rfl rfl (Nat.le_of_ble_eq_true rfl) (fun r30 m31 q32 => ?_)
      have h := h r30 m31 q32
      refine x_lcmp (pc := 229) dL_alike_229 ?_
      refine x_if_ne (pc := 230) (tgt := 289) dL_alike_230 (by decide) (fun c33 => ?_) (fun c33 => ?_)
      · have h := h.1 c33
        exact x_sub [0, 1, 2] rfl h
      · have h := h.2 c33
        exact x_sub [0, 1, 2] rfl h
set_option maxRecDepth 100000 in
set_option maxHeartbeats 4000000 in
theorem t_L_alike_233 {l : Launch} {G : Gx} {P : Int32 → Mem → Prop} (hG : M2 G) (a3 : Int32) (mem : Mem)
    (h : ∃ Q1 : Int32 → Mem → Prop, CtI l M_X6_meeting G [.ref (gA G 0), .int a3, .int 5, .int ((a3 + 3) - (a3 + 3) / 12 * 12)] mem Q1 ∧ ∀ (r3 : Int32) (m4 : Mem), Q1 r3 m4 → (∃ Q6 : Int32 → Mem → Prop, CtI l M_X6_meeting G [.ref (gA G 327), .int a3, .int 5, .int ((a3 + 3) - (a3 + 3) / 12 * 12)] m4 Q6 ∧ ∀ (r8 : Int32) (m9 : Mem), Q6 r8 m9 → ((¬ r3 = r8 → (XI l M_L_alike G P m9 289 [(0, .ref (gA G 0)), (1, .ref (gA G 327)), (3, .int a3)] [])) ∧ (r3 = r8 → (∃ Q12 : Int32 → Mem → Prop, CtI l M_X6_possibleWeights G [.ref (gA G 0), .int a3, .int ((a3 + 1) - (a3 + 1) / 12 * 12)] m9 Q12 ∧ ∀ (r14 : Int32) (m15 : Mem), Q12 r14 m15 → (∃ Q17 : Int32 → Mem → Prop, CtI l M_X6_possibleWeights G [.ref (gA G 327), .int a3, .int ((a3 + 1) - (a3 + 1) / 12 * 12)] m15 Q17 ∧ ∀ (r19 : Int32) (m20 : Mem), Q17 r19 m20 → ((¬ r14 = r19 → (XI l M_L_alike G P m20 289 [(0, .ref (gA G 0)), (1, .ref (gA G 327)), (3, .int a3)] [])) ∧ (r14 = r19 → (XI l M_L_alike G P m20 291 [(0, .ref (gA G 0)), (1, .ref (gA G 327)), (2, .int 1), (3, .int a3)] []))))))))) :
    XI l M_L_alike G P mem 233 [(0, .ref (gA G 0)), (1, .ref (gA G 327)), (3, .int a3)] [] := by
  refine x_aload_n (pc := 233) dL_alike_233 0 rfl rfl ?_
  refine x_iload_n (pc := 234) dL_alike_234 2 rfl rfl ?_
  refine x_iconst (pc := 235) (v := 5) dL_alike_235 (by decide) ?_
  refine x_iload_n (pc := 236) dL_alike_236 2 rfl rfl ?_
  refine x_iconst (pc := 237) (v := 3) dL_alike_237 (by decide) ?_
  refine x_iadd (pc := 238) dL_alike_238 ?_
  refine x_bipush (pc := 239) (v := 12) dL_alike_239 (by decide) ?_
  refine x_irem (pc := 241) dL_alike_241 (by decide) ?_
  obtain ⟨Q1, hc2, h⟩ := h
  refine x_callVI (pc := 242) 0 hc2 ok_X6_meeting dL_alike_242 tb_432 ⟨⟨rfl, rfl⟩, ⟨by decide, by decide⟩, by decide, by decide⟩ (mK2 hG (by decide)) (m2_0 hG _) rfl (As := [.int a3, .int 5, .int ((a3 + 3) - (a3 + 3) / 12 * 12)]) rfl rfl (Nat.le_of_ble_eq_true rfl) (fun r3 m4 q5 => ?_)
  have h := h r3 m4 q5
  refine x_aload_n (pc := 245) dL_alike_245 1 rfl rfl ?_
  refine x_iload_n (pc := 246) dL_alike_246 2 rfl rfl ?_
  refine x_iconst (pc := 247) (v := 5) dL_alike_247 (by decide) ?_
  refine x_iload_n (pc := 248) dL_alike_248 2 rfl rfl ?_
  refine x_iconst (pc := 249) (v := 3) dL_alike_249 (by decide) ?_
  refine x_iadd (pc := 250) dL_alike_250 ?_
  refine x_bipush (pc := 251) (v := 12) dL_alike_251 (by decide) ?_
  refine x_irem (pc := 253) dL_alike_253 (by decide) ?_
  obtain ⟨Q6, hc7, h⟩ := h
  refine x_callVI (pc := 254) 327 hc7 ok_X6_meeting dL_alike_254 tb_432 ⟨⟨rfl, rfl⟩, ⟨by decide, by decide⟩, by decide, by decide⟩ (mK2 hG (by decide)) (m2_327 hG _) rfl (As := [.int a3, .int 5, .int ((a3 + 3) - (a3 + 3) / 12 * 12)]) rfl rfl (Nat.le_of_ble_eq_true rfl) (fun r8 m9 q10 => ?_)
  have h := h r8 m9 q10
  refine x_icmp_ne (pc := 257) (tgt := 289) dL_alike_257 (by decide) (fun c11 => ?_) (fun c11 => ?_)
  · have h := h.1 c11
    exact x_sub [0, 1, 2] rfl h
  · have h := h.2 c11
    refine x_aload_n (pc := 260) dL_alike_260 0 rfl rfl ?_
    refine x_iload_n (pc := 261) dL_alike_261 2 rfl rfl ?_
    refine x_iload_n (pc := 262) dL_alike_262 2 rfl rfl ?_
    refine x_iconst (pc := 263) (v := 1) dL_alike_263 (by decide) ?_
    refine x_iadd (pc := 264) dL_alike_264 ?_
    refine x_bipush (pc := 265) (v := 12) dL_alike_265 (by decide) ?_
    refine x_irem (pc := 267) dL_alike_267 (by decide) ?_
    obtain ⟨Q12, hc13, h⟩ := h
    refine x_callVI (pc := 268) 0 hc13 ok_X6_possibleWeights dL_alike_268 tb_563 ⟨⟨rfl, rfl⟩, ⟨by decide, by decide⟩, by decide, by decide⟩ (mK2 hG (by decide)) (m2_0 hG _) rfl (As := [.int a3, .int ((a3 + 1) - (a3 + 1) / 12 * 12)]) rfl rfl (Nat.le_of_ble_eq_true rfl) (fun r14 m15 q16 => ?_)
    have h := h r14 m15 q16
    refine x_aload_n (pc := 271) dL_alike_271 1 rfl rfl ?_
    refine x_iload_n (pc := 272) dL_alike_272 2 rfl rfl ?_
    refine x_iload_n (pc := 273) dL_alike_273 2 rfl rfl ?_
    refine x_iconst (pc := 274) (v := 1) dL_alike_274 (by decide) ?_
    refine x_iadd (pc := 275) dL_alike_275 ?_
    refine x_bipush (pc := 276) (v := 12) dL_alike_276 (by decide) ?_
    refine x_irem (pc := 278) dL_alike_278 (by decide) ?_
    obtain ⟨Q17, hc18, h⟩ := h
    refine x_callVI (pc := 279) 327 hc18 ok_X6_possibleWeights dL_alike_279 tb_563 ⟨⟨rfl, rfl⟩, ⟨by decide, by decide⟩, by decide, by decide⟩ (mK2 hG (by decide)) (m2_327 hG _) rfl (As := [.int a3, .int ((a3 + 1) - (a3 + 1) / 12 * 12)]) rfl rfl (Nat.le_of_ble_eq_true rfl) (fun r19 m20 q21 => ?_)
    have h := h r19 m20 q21
    refine x_icmp_ne (pc := 282) (tgt := 289) dL_alike_282 (by decide) (fun c22 => ?_) (fun c22 => ?_)
    · have h := h.1 c22
      exact x_sub [0, 1, 2] rfl h
    · have h := h.2 c22
      refine x_iconst (pc := 285) (v := 1) dL_alike_285 (by decide) ?_
      refine x_goto (pc := 286) (tgt := 290) dL_alike_286 (by decide) ?_
      refine x_istore_n (pc := 290) dL_alike_290 rfl (by decide) rfl ?_
      exact x_sub [1, 2, 0, 3] rfl h
set_option maxRecDepth 100000 in
set_option maxHeartbeats 4000000 in
theorem t_L_alike_289 {l : Launch} {G : Gx} {P : Int32 → Mem → Prop} (hG : M2 G) (a3 : Int32) (mem : Mem)
    (h : XI l M_L_alike G P mem 291 [(0, .ref (gA G 0)), (1, .ref (gA G 327)), (2, .int 0), (3, .int a3)] []) :
    XI l M_L_alike G P mem 289 [(0, .ref (gA G 0)), (1, .ref (gA G 327)), (3, .int a3)] [] := by
  refine x_iconst (pc := 289) (v := 0) dL_alike_289 (by decide) ?_
  refine x_istore_n (pc := 290) dL_alike_290 rfl (by decide) rfl ?_
  exact x_sub [1, 2, 0, 3] rfl h
set_option maxRecDepth 100000 in
set_option maxHeartbeats 4000000 in
theorem t_L_alike_291 {l : Launch} {G : Gx} {P : Int32 → Mem → Prop} (hG : M2 G) (a2 : Int32) (a3 : Int32) (mem : Mem)
    (h : XI l M_L_alike G P mem 52 [(0, .ref (gA G 0)), (1, .ref (gA G 327)), (2, .int a2), (3, .int (a3 + 1))] []) :
    XI l M_L_alike G P mem 291 [(0, .ref (gA G 0)), (1, .ref (gA G 327)), (2, .int a2), (3, .int a3)] [] := by
  refine x_iinc (pc := 291) (v := (a3 + 1)) dL_alike_291 (k := 3) rfl rfl (by decide) rfl ?_
  refine x_goto (pc := 294) (tgt := 52) dL_alike_294 (by decide) ?_
  exact x_sub [1, 2, 3, 0] rfl h
