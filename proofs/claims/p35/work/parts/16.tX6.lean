set_option maxRecDepth 100000 in
set_option maxHeartbeats 4000000 in
theorem t_X6_append_0 {l : Launch} {G : Gx} {P : Int32 → Mem → Prop} (hG : Mn G) (a1 : Int32) (mem : Mem)
    (h : (a1 < 0 → (P (-2) mem)) ∧ (¬ a1 < 0 → ((a1 ≤ 255 → (∃ Q3 : Int32 → Mem → Prop, CtI l M_X4_put G [.ref (gA G 76), .int a1] mem Q3 ∧ ∀ (r5 : Int32) (m6 : Mem), Q3 r5 m6 → ((r5 = 0 → (P (-4) m6)) ∧ (¬ r5 = 0 → (∃ Q9 : Int32 → Mem → Prop, CtI l M_X4_size G [.ref (gA G 76)] m6 Q9 ∧ ∀ (r11 : Int32) (m12 : Mem), Q9 r11 m12 → (P r11 m12)))))) ∧ (¬ a1 ≤ 255 → (P (-2) mem))))) :
    XI l M_X6_append G P mem 0 [(0, .ref (gA G 0)), (1, .int a1)] [] := by
  refine x_iload_n (pc := 0) dX6_append_0 1 rfl rfl ?_
  refine x_if_lt (pc := 1) (tgt := 11) dX6_append_1 (by decide) (fun c1 => ?_) (fun c1 => ?_)
  · have h := h.1 c1
    refine x_bipush (pc := 11) (v := (-2)) dX6_append_11 (by decide) ?_
    exact x_endI (pc := 13) dX6_append_13 rfl h
  · have h := h.2 c1
    refine x_iload_n (pc := 4) dX6_append_4 1 rfl rfl ?_
    refine x_sipush (pc := 5) (v := 255) dX6_append_5 (by decide) ?_
    refine x_icmp_le (pc := 8) (tgt := 14) dX6_append_8 (by decide) (fun c2 => ?_) (fun c2 => ?_)
    · have h := h.1 c2
      refine x_aload_n (pc := 14) dX6_append_14 0 rfl rfl ?_
      refine x_get (pc := 15) 0 5 dX6_append_15 (mK hG (by decide)) (mc_0 hG _) rfl inX6 (by decide) tb_197 rfl rfl ?_
      refine x_iload_n (pc := 18) dX6_append_18 1 rfl rfl ?_
      obtain ⟨Q3, hc4, h⟩ := h
      refine x_callVI (pc := 19) 76 hc4 ok_X4_put dX6_append_19 tb_251 ⟨⟨rfl, rfl⟩, ⟨by decide, by decide⟩, by decide, by decide⟩ (mK hG (by decide)) (mc_76 hG _) rfl (As := [.int a1]) rfl rfl (Nat.le_of_ble_eq_true rfl) (fun r5 m6 q7 => ?_)
      have h := h r5 m6 q7
      refine x_if_eq (pc := 22) (tgt := 35) dX6_append_22 (by decide) (fun c8 => ?_) (fun c8 => ?_)
      · have h := h.1 c8
        refine x_bipush (pc := 35) (v := (-4)) dX6_append_35 (by decide) ?_
        exact x_endI (pc := 37) dX6_append_37 rfl h
      · have h := h.2 c8
        refine x_aload_n (pc := 25) dX6_append_25 0 rfl rfl ?_
        refine x_get (pc := 26) 0 5 dX6_append_26 (mK hG (by decide)) (mc_0 hG _) rfl inX6 (by decide) tb_197 rfl rfl ?_
        obtain ⟨Q9, hc10, h⟩ := h
        refine x_callVI (pc := 29) 76 hc10 ok_X4_size dX6_append_29 tb_255 ⟨⟨rfl, rfl⟩, ⟨by decide, by decide⟩, by decide, by decide⟩ (mK hG (by decide)) (mc_76 hG _) rfl (As := []) rfl rfl (Nat.le_of_ble_eq_true rfl) (fun r11 m12 q13 => ?_)
        have h := h r11 m12 q13
        refine x_goto (pc := 32) (tgt := 37) dX6_append_32 (by decide) ?_
        exact x_endI (pc := 37) dX6_append_37 rfl h
    · have h := h.2 c2
      refine x_bipush (pc := 11) (v := (-2)) dX6_append_11 (by decide) ?_
      exact x_endI (pc := 13) dX6_append_13 rfl h
set_option maxRecDepth 100000 in
set_option maxHeartbeats 4000000 in
theorem t_X6_clearText_0 {l : Launch} {G : Gx} {P : Int32 → Mem → Prop} (hG : Mn G)  (mem : Mem)
    (h : ∃ Q1 : Int32 → Mem → Prop, CtI l M_X4_size G [.ref (gA G 76)] mem Q1 ∧ ∀ (r3 : Int32) (m4 : Mem), Q1 r3 m4 → (∃ Q6 : Mem → Prop, CtV l M_X4_empty G [.ref (gA G 76)] m4 Q6 ∧ ∀ m9 : Mem, Q6 m9 → (P r3 m9))) :
    XI l M_X6_clearText G P mem 0 [(0, .ref (gA G 0))] [] := by
  refine x_aload_n (pc := 0) dX6_clearText_0 0 rfl rfl ?_
  refine x_get (pc := 1) 0 5 dX6_clearText_1 (mK hG (by decide)) (mc_0 hG _) rfl inX6 (by decide) tb_197 rfl rfl ?_
  obtain ⟨Q1, hc2, h⟩ := h
  refine x_callVI (pc := 4) 76 hc2 ok_X4_size dX6_clearText_4 tb_255 ⟨⟨rfl, rfl⟩, ⟨by decide, by decide⟩, by decide, by decide⟩ (mK hG (by decide)) (mc_76 hG _) rfl (As := []) rfl rfl (Nat.le_of_ble_eq_true rfl) (fun r3 m4 q5 => ?_)
  have h := h r3 m4 q5
  refine x_istore_n (pc := 7) dX6_clearText_7 rfl (by decide) rfl ?_
  refine x_aload_n (pc := 8) dX6_clearText_8 1 rfl rfl ?_
  refine x_get (pc := 9) 0 5 dX6_clearText_9 (mK hG (by decide)) (mc_0 hG _) rfl inX6 (by decide) tb_197 rfl rfl ?_
  obtain ⟨Q6, hc7, h⟩ := h
  refine x_callVV (pc := 12) 76 hc7 ok_X4_empty dX6_clearText_12 tb_642 ⟨⟨rfl, rfl⟩, ⟨by decide, by decide⟩, by decide, by decide⟩ (mK hG (by decide)) (mc_76 hG _) rfl (As := []) rfl rfl (Nat.le_of_ble_eq_true rfl) (fun m9 q10 => ?_)
  have h := h m9 q10
  refine x_iload_n (pc := 15) dX6_clearText_15 0 rfl rfl ?_
  exact x_endI (pc := 16) dX6_clearText_16 rfl h
set_option maxRecDepth 100000 in
set_option maxHeartbeats 4000000 in
theorem t_X6_errorPosition_0 {l : Launch} {G : Gx} {P : Int32 → Mem → Prop} (hG : Mn G)  (mem : Mem)
    (h : ∃ Q1 : Int32 → Mem → Prop, CtI l M_X4_readInto G [.ref (gA G 76), .ref (gA G 30)] mem Q1 ∧ ∀ (r3 : Int32) (m4 : Mem), Q1 r3 m4 → (P r3 m4)) :
    XI l M_X6_errorPosition G P mem 0 [(0, .ref (gA G 0))] [] := by
  refine x_aload_n (pc := 0) dX6_errorPosition_0 0 rfl rfl ?_
  refine x_get (pc := 1) 0 5 dX6_errorPosition_1 (mK hG (by decide)) (mc_0 hG _) rfl inX6 (by decide) tb_197 rfl rfl ?_
  refine x_aload_n (pc := 4) dX6_errorPosition_4 0 rfl rfl ?_
  refine x_get (pc := 5) 0 2 dX6_errorPosition_5 (mK hG (by decide)) (mc_0 hG _) rfl inX6 (by decide) tb_194 rfl rfl ?_
  obtain ⟨Q1, hc2, h⟩ := h
  refine x_callVI (pc := 8) 76 hc2 ok_X4_readInto dX6_errorPosition_8 tb_695 ⟨⟨rfl, rfl⟩, ⟨by decide, by decide⟩, by decide, by decide⟩ (mK hG (by decide)) (mc_76 hG _) rfl (As := [.ref (gA G 30)]) rfl rfl (Nat.le_of_ble_eq_true rfl) (fun r3 m4 q5 => ?_)
  have h := h r3 m4 q5
  exact x_endI (pc := 11) dX6_errorPosition_11 rfl h
set_option maxRecDepth 100000 in
set_option maxHeartbeats 4000000 in
theorem t_X6_load_0 {l : Launch} {G : Gx} {P : Int32 → Mem → Prop} (hG : Mn G)  (mem : Mem)
    (h : ∃ Q1 : Int32 → Mem → Prop, CtI l M_X4_readInto G [.ref (gA G 76), .ref (gA G 30)] mem Q1 ∧ ∀ (r3 : Int32) (m4 : Mem), Q1 r3 m4 → ((r3 = (-9) → (∃ Q7 : Mem → Prop, CtV l M_X1_become G [.ref (gA G 1), .ref (gA G 30)] m4 Q7 ∧ ∀ m10 : Mem, Q7 m10 → (∃ Q12 : Mem → Prop, CtV l M_X2_forget G [.ref (gA G 79)] m10 Q12 ∧ ∀ m15 : Mem, Q12 m15 → (∃ Q17 : Mem → Prop, CtV l M_X6_emptySlots G [.ref (gA G 0)] m15 Q17 ∧ ∀ m20 : Mem, Q17 m20 → (∃ Q22 : Int32 → Mem → Prop, CtI l M_X1_edgeCount G [.ref (gA G 1)] m20 Q22 ∧ ∀ (r24 : Int32) (m25 : Mem), Q22 r24 m25 → (P r24 m25)))))) ∧ (¬ r3 = (-9) → (P (-3) m4)))) :
    XI l M_X6_load G P mem 0 [(0, .ref (gA G 0))] [] := by
  refine x_aload_n (pc := 0) dX6_load_0 0 rfl rfl ?_
  refine x_get (pc := 1) 0 5 dX6_load_1 (mK hG (by decide)) (mc_0 hG _) rfl inX6 (by decide) tb_197 rfl rfl ?_
  refine x_aload_n (pc := 4) dX6_load_4 0 rfl rfl ?_
  refine x_get (pc := 5) 0 2 dX6_load_5 (mK hG (by decide)) (mc_0 hG _) rfl inX6 (by decide) tb_194 rfl rfl ?_
  obtain ⟨Q1, hc2, h⟩ := h
  refine x_callVI (pc := 8) 76 hc2 ok_X4_readInto dX6_load_8 tb_695 ⟨⟨rfl, rfl⟩, ⟨by decide, by decide⟩, by decide, by decide⟩ (mK hG (by decide)) (mc_76 hG _) rfl (As := [.ref (gA G 30)]) rfl rfl (Nat.le_of_ble_eq_true rfl) (fun r3 m4 q5 => ?_)
  have h := h r3 m4 q5
  refine x_bipush (pc := 11) (v := (-9)) dX6_load_11 (by decide) ?_
  refine x_icmp_eq (pc := 13) (tgt := 19) dX6_load_13 (by decide) (fun c6 => ?_) (fun c6 => ?_)
  · have h := h.1 c6
    refine x_aload_n (pc := 19) dX6_load_19 0 rfl rfl ?_
    refine x_get (pc := 20) 0 0 dX6_load_20 (mK hG (by decide)) (mc_0 hG _) rfl inX6 (by decide) tb_192 rfl rfl ?_
    refine x_aload_n (pc := 23) dX6_load_23 0 rfl rfl ?_
    refine x_get (pc := 24) 0 2 dX6_load_24 (mK hG (by decide)) (mc_0 hG _) rfl inX6 (by decide) tb_194 rfl rfl ?_
    obtain ⟨Q7, hc8, h⟩ := h
    refine x_callVV (pc := 27) 1 hc8 ok_X1_become dX6_load_27 tb_587 ⟨⟨rfl, rfl⟩, ⟨by decide, by decide⟩, by decide, by decide⟩ (Fo_K0 (Fo_of hG (by decide))) (Fo_c0 (Fo_of hG (by decide)) _) rfl (As := [.ref (gA G 30)]) rfl rfl (Nat.le_of_ble_eq_true rfl) (fun m10 q11 => ?_)
    have h := h m10 q11
    refine x_aload_n (pc := 30) dX6_load_30 0 rfl rfl ?_
    refine x_get (pc := 31) 0 6 dX6_load_31 (mK hG (by decide)) (mc_0 hG _) rfl inX6 (by decide) tb_198 rfl rfl ?_
    obtain ⟨Q12, hc13, h⟩ := h
    refine x_callVV (pc := 34) 79 hc13 ok_X2_forget dX6_load_34 tb_628 ⟨⟨rfl, rfl⟩, ⟨by decide, by decide⟩, by decide, by decide⟩ (mK hG (by decide)) (mc_79 hG _) rfl (As := []) rfl rfl (Nat.le_of_ble_eq_true rfl) (fun m15 q16 => ?_)
    have h := h m15 q16
    refine x_aload_n (pc := 37) dX6_load_37 0 rfl rfl ?_
    obtain ⟨Q17, hc18, h⟩ := h
    refine x_callVV (pc := 38) 0 hc18 ok_X6_emptySlots dX6_load_38 tb_727 ⟨⟨rfl, rfl⟩, ⟨by decide, by decide⟩, by decide, by decide⟩ (mK hG (by decide)) (mc_0 hG _) rfl (As := []) rfl rfl (Nat.le_of_ble_eq_true rfl) (fun m20 q21 => ?_)
    have h := h m20 q21
    refine x_aload_n (pc := 41) dX6_load_41 0 rfl rfl ?_
    refine x_get (pc := 42) 0 0 dX6_load_42 (mK hG (by decide)) (mc_0 hG _) rfl inX6 (by decide) tb_192 rfl rfl ?_
    obtain ⟨Q22, hc23, h⟩ := h
    refine x_callVI (pc := 45) 1 hc23 ok_X1_edgeCount dX6_load_45 tb_332 ⟨⟨rfl, rfl⟩, ⟨by decide, by decide⟩, by decide, by decide⟩ (Fo_K0 (Fo_of hG (by decide))) (Fo_c0 (Fo_of hG (by decide)) _) rfl (As := []) rfl rfl (Nat.le_of_ble_eq_true rfl) (fun r24 m25 q26 => ?_)
    have h := h r24 m25 q26
    exact x_endI (pc := 48) dX6_load_48 rfl h
  · have h := h.2 c6
    refine x_bipush (pc := 16) (v := (-3)) dX6_load_16 (by decide) ?_
    exact x_endI (pc := 18) dX6_load_18 rfl h
set_option maxRecDepth 100000 in
set_option maxHeartbeats 4000000 in
theorem t_X6_emptySlots_0 {l : Launch} {G : Gx} {P : Mem → Prop} (hG : Mn G)  (mem : Mem)
    (h : XV l M_X6_emptySlots G P mem 2 [(0, .ref (gA G 0)), (1, .int 0)] []) :
    XV l M_X6_emptySlots G P mem 0 [(0, .ref (gA G 0))] [] := by
  refine x_iconst (pc := 0) (v := 0) dX6_emptySlots_0 (by decide) ?_
  refine x_istore_n (pc := 1) dX6_emptySlots_1 rfl (by decide) rfl ?_
  exact x_sub [1, 0] rfl h
set_option maxRecDepth 100000 in
set_option maxHeartbeats 4000000 in
theorem t_X6_emptySlots_2 {l : Launch} {G : Gx} {P : Mem → Prop} (hG : Mn G) (a1 : Int32) (mem : Mem)
    (h : (2 ≤ a1 → (P mem)) ∧ (¬ 2 ≤ a1 → (vp_in a1 2 ∧ (XV l M_X6_emptySlots G P (wr mem 326 a1.toNatClampNeg 0) 2 [(0, .ref (gA G 0)), (1, .int (a1 + 1))] [])))) :
    XV l M_X6_emptySlots G P mem 2 [(0, .ref (gA G 0)), (1, .int a1)] [] := by
  refine x_iload_n (pc := 2) dX6_emptySlots_2 1 rfl rfl ?_
  refine x_iconst (pc := 3) (v := 2) dX6_emptySlots_3 (by decide) ?_
  refine x_icmp_ge (pc := 4) (tgt := 20) dX6_emptySlots_4 (by decide) (fun c1 => ?_) (fun c1 => ?_)
  · have h := h.1 c1
    exact x_endV (pc := 20) dX6_emptySlots_20 rfl h
  · have h := h.2 c1
    refine x_aload_n (pc := 7) dX6_emptySlots_7 0 rfl rfl ?_
    refine x_get (pc := 8) 0 9 dX6_emptySlots_8 (mK hG (by decide)) (mc_0 hG _) rfl inX6 (by decide) tb_201 rfl rfl ?_
    refine x_iload_n (pc := 11) dX6_emptySlots_11 1 rfl rfl ?_
    refine x_iconst (pc := 12) (v := 0) dX6_emptySlots_12 (by decide) ?_
    have n2 := h.1
    have h := h.2
    refine x_zast (pc := 13) 326 dX6_emptySlots_13 (mK hG (by decide)) (mc_326 hG) n2 (Or.inl rfl) ?_
    refine x_iinc (pc := 14) (v := (a1 + 1)) dX6_emptySlots_14 (k := 1) rfl rfl (by decide) rfl ?_
    refine x_goto (pc := 17) (tgt := 2) dX6_emptySlots_17 (by decide) ?_
    exact x_sub [1, 0] rfl h
set_option maxRecDepth 100000 in
set_option maxHeartbeats 4000000 in
theorem t_X6_vertexWeight_0 {l : Launch} {G : Gx} {P : Int32 → Mem → Prop} (hG : Mn G) (a1 : Int32) (mem : Mem)
    (h : ∃ Q1 : Int32 → Mem → Prop, CtI l M_X1_hasVertex G [.ref (gA G 1), .int a1] mem Q1 ∧ ∀ (r3 : Int32) (m4 : Mem), Q1 r3 m4 → ((r3 = 0 → (P (-1) m4)) ∧ (¬ r3 = 0 → (∃ Q7 : Int32 → Mem → Prop, CtI l M_X1_weightOf G [.ref (gA G 1), .int a1] m4 Q7 ∧ ∀ (r9 : Int32) (m10 : Mem), Q7 r9 m10 → (P r9 m10))))) :
    XI l M_X6_vertexWeight G P mem 0 [(0, .ref (gA G 0)), (1, .int a1)] [] := by
  refine x_aload_n (pc := 0) dX6_vertexWeight_0 0 rfl rfl ?_
  refine x_get (pc := 1) 0 0 dX6_vertexWeight_1 (mK hG (by decide)) (mc_0 hG _) rfl inX6 (by decide) tb_192 rfl rfl ?_
  refine x_iload_n (pc := 4) dX6_vertexWeight_4 1 rfl rfl ?_
  obtain ⟨Q1, hc2, h⟩ := h
  refine x_callVI (pc := 5) 1 hc2 ok_X1_hasVertex dX6_vertexWeight_5 tb_238 ⟨⟨rfl, rfl⟩, ⟨by decide, by decide⟩, by decide, by decide⟩ (Fo_K0 (Fo_of hG (by decide))) (Fo_c0 (Fo_of hG (by decide)) _) rfl (As := [.int a1]) rfl rfl (Nat.le_of_ble_eq_true rfl) (fun r3 m4 q5 => ?_)
  have h := h r3 m4 q5
  refine x_if_eq (pc := 8) (tgt := 22) dX6_vertexWeight_8 (by decide) (fun c6 => ?_) (fun c6 => ?_)
  · have h := h.1 c6
    refine x_iconst (pc := 22) (v := (-1)) dX6_vertexWeight_22 (by decide) ?_
    exact x_endI (pc := 23) dX6_vertexWeight_23 rfl h
  · have h := h.2 c6
    refine x_aload_n (pc := 11) dX6_vertexWeight_11 0 rfl rfl ?_
    refine x_get (pc := 12) 0 0 dX6_vertexWeight_12 (mK hG (by decide)) (mc_0 hG _) rfl inX6 (by decide) tb_192 rfl rfl ?_
    refine x_iload_n (pc := 15) dX6_vertexWeight_15 1 rfl rfl ?_
    obtain ⟨Q7, hc8, h⟩ := h
    refine x_callVI (pc := 16) 1 hc8 ok_X1_weightOf dX6_vertexWeight_16 tb_242 ⟨⟨rfl, rfl⟩, ⟨by decide, by decide⟩, by decide, by decide⟩ (Fo_K0 (Fo_of hG (by decide))) (Fo_c0 (Fo_of hG (by decide)) _) rfl (As := [.int a1]) rfl rfl (Nat.le_of_ble_eq_true rfl) (fun r9 m10 q11 => ?_)
    have h := h r9 m10 q11
    refine x_goto (pc := 19) (tgt := 23) dX6_vertexWeight_19 (by decide) ?_
    exact x_endI (pc := 23) dX6_vertexWeight_23 rfl h
set_option maxRecDepth 100000 in
set_option maxHeartbeats 4000000 in
theorem t_X6_edgeWeight_0 {l : Launch} {G : Gx} {P : Int32 → Mem → Prop} (hG : Mn G) (a1 : Int32) (a2 : Int32) (mem : Mem)
    (h : ∃ Q1 : Int32 → Mem → Prop, CtI l M_X1_hasVertices G [.ref (gA G 1), .int a1, .int a2] mem Q1 ∧ ∀ (r3 : Int32) (m4 : Mem), Q1 r3 m4 → ((¬ r3 = 0 → (∃ Q7 : Int32 → Mem → Prop, CtI l M_X1_hasEdge G [.ref (gA G 1), .int a1, .int a2] m4 Q7 ∧ ∀ (r9 : Int32) (m10 : Mem), Q7 r9 m10 → ((r9 = 0 → (P (-9) m10)) ∧ (¬ r9 = 0 → (∃ Q13 : Int32 → Mem → Prop, CtI l M_X1_edgeBetween G [.ref (gA G 1), .int a1, .int a2] m10 Q13 ∧ ∀ (r15 : Int32) (m16 : Mem), Q13 r15 m16 → (P r15 m16)))))) ∧ (r3 = 0 → (P (-1) m4)))) :
    XI l M_X6_edgeWeight G P mem 0 [(0, .ref (gA G 0)), (1, .int a1), (2, .int a2)] [] := by
  refine x_aload_n (pc := 0) dX6_edgeWeight_0 0 rfl rfl ?_
  refine x_get (pc := 1) 0 0 dX6_edgeWeight_1 (mK hG (by decide)) (mc_0 hG _) rfl inX6 (by decide) tb_192 rfl rfl ?_
  refine x_iload_n (pc := 4) dX6_edgeWeight_4 1 rfl rfl ?_
  refine x_iload_n (pc := 5) dX6_edgeWeight_5 2 rfl rfl ?_
  obtain ⟨Q1, hc2, h⟩ := h
  refine x_callVI (pc := 6) 1 hc2 ok_X1_hasVertices dX6_edgeWeight_6 tb_263 ⟨⟨rfl, rfl⟩, ⟨by decide, by decide⟩, by decide, by decide⟩ (Fo_K0 (Fo_of hG (by decide))) (Fo_c0 (Fo_of hG (by decide)) _) rfl (As := [.int a1, .int a2]) rfl rfl (Nat.le_of_ble_eq_true rfl) (fun r3 m4 q5 => ?_)
  have h := h r3 m4 q5
  refine x_if_ne (pc := 9) (tgt := 14) dX6_edgeWeight_9 (by decide) (fun c6 => ?_) (fun c6 => ?_)
  · have h := h.1 c6
    refine x_aload_n (pc := 14) dX6_edgeWeight_14 0 rfl rfl ?_
    refine x_get (pc := 15) 0 0 dX6_edgeWeight_15 (mK hG (by decide)) (mc_0 hG _) rfl inX6 (by decide) tb_192 rfl rfl ?_
    refine x_iload_n (pc := 18) dX6_edgeWeight_18 1 rfl rfl ?_
    refine x_iload_n (pc := 19) dX6_edgeWeight_19 2 rfl rfl ?_
    obtain ⟨Q7, hc8, h⟩ := h
    refine x_callVI (pc := 20) 1 hc8 ok_X1_hasEdge dX6_edgeWeight_20 tb_267 ⟨⟨rfl, rfl⟩, ⟨by decide, by decide⟩, by decide, by decide⟩ (Fo_K0 (Fo_of hG (by decide))) (Fo_c0 (Fo_of hG (by decide)) _) rfl (As := [.int a1, .int a2]) rfl rfl (Nat.le_of_ble_eq_true rfl) (fun r9 m10 q11 => ?_)
    have h := h r9 m10 q11
    refine x_if_eq (pc := 23) (tgt := 38) dX6_edgeWeight_23 (by decide) (fun c12 => ?_) (fun c12 => ?_)
    · have h := h.1 c12
      refine x_bipush (pc := 38) (v := (-9)) dX6_edgeWeight_38 (by decide) ?_
      exact x_endI (pc := 40) dX6_edgeWeight_40 rfl h
    · have h := h.2 c12
      refine x_aload_n (pc := 26) dX6_edgeWeight_26 0 rfl rfl ?_
      refine x_get (pc := 27) 0 0 dX6_edgeWeight_27 (mK hG (by decide)) (mc_0 hG _) rfl inX6 (by decide) tb_192 rfl rfl ?_
      refine x_iload_n (pc := 30) dX6_edgeWeight_30 1 rfl rfl ?_
      refine x_iload_n (pc := 31) dX6_edgeWeight_31 2 rfl rfl ?_
      obtain ⟨Q13, hc14, h⟩ := h
      refine x_callVI (pc := 32) 1 hc14 ok_X1_edgeBetween dX6_edgeWeight_32 tb_276 ⟨⟨rfl, rfl⟩, ⟨by decide, by decide⟩, by decide, by decide⟩ (Fo_K0 (Fo_of hG (by decide))) (Fo_c0 (Fo_of hG (by decide)) _) rfl (As := [.int a1, .int a2]) rfl rfl (Nat.le_of_ble_eq_true rfl) (fun r15 m16 q17 => ?_)
      have h := h r15 m16 q17
      refine x_goto (pc := 35) (tgt := 40) dX6_edgeWeight_35 (by decide) ?_
      exact x_endI (pc := 40) dX6_edgeWeight_40 rfl h
  · have h := h.2 c6
    refine x_iconst (pc := 12) (v := (-1)) dX6_edgeWeight_12 (by decide) ?_
    exact x_endI (pc := 13) dX6_edgeWeight_13 rfl h
set_option maxRecDepth 100000 in
set_option maxHeartbeats 4000000 in
theorem t_X6_treeOf_0 {l : Launch} {G : Gx} {P : Int32 → Mem → Prop} (hG : Mn G) (a1 : Int32) (mem : Mem)
    (h : ∃ Q1 : Int32 → Mem → Prop, CtI l M_X1_hasVertex G [.ref (gA G 1), .int a1] mem Q1 ∧ ∀ (r3 : Int32) (m4 : Mem), Q1 r3 m4 → ((¬ r3 = 0 → (∃ Q7 : Mem → Prop, CtV l M_X5_measure G [.ref (gA G 16)] m4 Q7 ∧ ∀ m10 : Mem, Q7 m10 → (∃ Q12 : Int32 → Mem → Prop, CtI l M_X5_smallestJoined G [.ref (gA G 16), .int a1] m10 Q12 ∧ ∀ (r14 : Int32) (m15 : Mem), Q12 r14 m15 → (P r14 m15)))) ∧ (r3 = 0 → (P (-1) m4)))) :
    XI l M_X6_treeOf G P mem 0 [(0, .ref (gA G 0)), (1, .int a1)] [] := by
  refine x_aload_n (pc := 0) dX6_treeOf_0 0 rfl rfl ?_
  refine x_get (pc := 1) 0 0 dX6_treeOf_1 (mK hG (by decide)) (mc_0 hG _) rfl inX6 (by decide) tb_192 rfl rfl ?_
  refine x_iload_n (pc := 4) dX6_treeOf_4 1 rfl rfl ?_
  obtain ⟨Q1, hc2, h⟩ := h
  refine x_callVI (pc := 5) 1 hc2 ok_X1_hasVertex dX6_treeOf_5 tb_238 ⟨⟨rfl, rfl⟩, ⟨by decide, by decide⟩, by decide, by decide⟩ (Fo_K0 (Fo_of hG (by decide))) (Fo_c0 (Fo_of hG (by decide)) _) rfl (As := [.int a1]) rfl rfl (Nat.le_of_ble_eq_true rfl) (fun r3 m4 q5 => ?_)
  have h := h r3 m4 q5
  refine x_if_ne (pc := 8) (tgt := 13) dX6_treeOf_8 (by decide) (fun c6 => ?_) (fun c6 => ?_)
  · have h := h.1 c6
    refine x_aload_n (pc := 13) dX6_treeOf_13 0 rfl rfl ?_
    refine x_get (pc := 14) 0 1 dX6_treeOf_14 (mK hG (by decide)) (mc_0 hG _) rfl inX6 (by decide) tb_193 rfl rfl ?_
    obtain ⟨Q7, hc8, h⟩ := h
    refine x_callVV (pc := 17) 16 hc8 ok_X5_measure dX6_treeOf_17 tb_281 ⟨⟨rfl, rfl⟩, ⟨by decide, by decide⟩, by decide, by decide⟩ (Sv_K0 ⟨Or.inl rfl, hG⟩) (Sv_c0 ⟨Or.inl rfl, hG⟩ _) rfl (As := []) rfl rfl (Nat.le_of_ble_eq_true rfl) (fun m10 q11 => ?_)
    have h := h m10 q11
    refine x_aload_n (pc := 20) dX6_treeOf_20 0 rfl rfl ?_
    refine x_get (pc := 21) 0 1 dX6_treeOf_21 (mK hG (by decide)) (mc_0 hG _) rfl inX6 (by decide) tb_193 rfl rfl ?_
    refine x_iload_n (pc := 24) dX6_treeOf_24 1 rfl rfl ?_
    obtain ⟨Q12, hc13, h⟩ := h
    refine x_callVI (pc := 25) 16 hc13 ok_X5_smallestJoined dX6_treeOf_25 tb_296 ⟨⟨rfl, rfl⟩, ⟨by decide, by decide⟩, by decide, by decide⟩ (Sv_K0 ⟨Or.inl rfl, hG⟩) (Sv_c0 ⟨Or.inl rfl, hG⟩ _) rfl (As := [.int a1]) rfl rfl (Nat.le_of_ble_eq_true rfl) (fun r14 m15 q16 => ?_)
    have h := h r14 m15 q16
    exact x_endI (pc := 28) dX6_treeOf_28 rfl h
  · have h := h.2 c6
    refine x_iconst (pc := 11) (v := (-1)) dX6_treeOf_11 (by decide) ?_
    exact x_endI (pc := 12) dX6_treeOf_12 rfl h
set_option maxRecDepth 100000 in
set_option maxHeartbeats 4000000 in
theorem t_X6_link_0 {l : Launch} {G : Gx} {P : Int32 → Mem → Prop} (hG : Mn G) (a1 : Int32) (a2 : Int32) (a3 : Int32) (mem : Mem)
    (h : ∃ Q1 : Int32 → Mem → Prop, CtI l M_X6_linkError G [.ref (gA G 1), .ref (gA G 16), .int a1, .int a2, .int a3] mem Q1 ∧ ∀ (r3 : Int32) (m4 : Mem), Q1 r3 m4 → ((r3 = 0 → (∃ Q7 : Mem → Prop, CtV l M_X2_remember G [.ref (gA G 79), .ref (gA G 1)] m4 Q7 ∧ ∀ m10 : Mem, Q7 m10 → (∃ Q12 : Mem → Prop, CtV l M_X1_putEdge G [.ref (gA G 1), .int a1, .int a2, .int a3] m10 Q12 ∧ ∀ m15 : Mem, Q12 m15 → (∃ Q17 : Int32 → Mem → Prop, CtI l M_X1_edgeCount G [.ref (gA G 1)] m15 Q17 ∧ ∀ (r19 : Int32) (m20 : Mem), Q17 r19 m20 → (P r19 m20))))) ∧ (¬ r3 = 0 → (P r3 m4)))) :
    XI l M_X6_link G P mem 0 [(0, .ref (gA G 0)), (1, .int a1), (2, .int a2), (3, .int a3)] [] := by
  refine x_aload_n (pc := 0) dX6_link_0 0 rfl rfl ?_
  refine x_get (pc := 1) 0 0 dX6_link_1 (mK hG (by decide)) (mc_0 hG _) rfl inX6 (by decide) tb_192 rfl rfl ?_
  refine x_aload_n (pc := 4) dX6_link_4 0 rfl rfl ?_
  refine x_get (pc := 5) 0 1 dX6_link_5 (mK hG (by decide)) (mc_0 hG _) rfl inX6 (by decide) tb_193 rfl rfl ?_
  refine x_iload_n (pc := 8) dX6_link_8 1 rfl rfl ?_
  refine x_iload_n (pc := 9) dX6_link_9 2 rfl rfl ?_
  refine x_iload_n (pc := 10) dX6_link_10 3 rfl rfl ?_
  obtain ⟨Q1, hc2, h⟩ := h
  refine x_callSI (pc := 11) hc2 ok_X6_linkError dX6_link_11 tb_312 ⟨⟨rfl, rfl⟩, ⟨by decide, by decide⟩, by decide, by decide⟩ rfl rfl (Nat.le_of_ble_eq_true rfl) (fun r3 m4 q5 => ?_)
  have h := h r3 m4 q5
  refine x_istore (pc := 14) dX6_link_14 (by decide) rfl ?_
  refine x_iload (pc := 16) dX6_link_16 0 rfl ?_
  refine x_if_eq (pc := 18) (tgt := 24) dX6_link_18 (by decide) (fun c6 => ?_) (fun c6 => ?_)
  · have h := h.1 c6
    refine x_aload_n (pc := 24) dX6_link_24 1 rfl rfl ?_
    refine x_get (pc := 25) 0 6 dX6_link_25 (mK hG (by decide)) (mc_0 hG _) rfl inX6 (by decide) tb_198 rfl rfl ?_
    refine x_aload_n (pc := 28) dX6_link_28 1 rfl rfl ?_
    refine x_get (pc := 29) 0 0 dX6_link_29 (mK hG (by decide)) (mc_0 hG _) rfl inX6 (by decide) tb_192 rfl rfl ?_
    obtain ⟨Q7, hc8, h⟩ := h
    refine x_callVV (pc := 32) 79 hc8 ok_X2_remember dX6_link_32 tb_316 ⟨⟨rfl, rfl⟩, ⟨by decide, by decide⟩, by decide, by decide⟩ (mK hG (by decide)) (mc_79 hG _) rfl (As := [.ref (gA G 1)]) rfl rfl (Nat.le_of_ble_eq_true rfl) (fun m10 q11 => ?_)
    have h := h m10 q11
    refine x_aload_n (pc := 35) dX6_link_35 1 rfl rfl ?_
    refine x_get (pc := 36) 0 0 dX6_link_36 (mK hG (by decide)) (mc_0 hG _) rfl inX6 (by decide) tb_192 rfl rfl ?_
    refine x_iload_n (pc := 39) dX6_link_39 2 rfl rfl ?_
    refine x_iload_n (pc := 40) dX6_link_40 3 rfl rfl ?_
    refine x_iload_n (pc := 41) dX6_link_41 4 rfl rfl ?_
    obtain ⟨Q12, hc13, h⟩ := h
    refine x_callVV (pc := 42) 1 hc13 ok_X1_putEdge dX6_link_42 tb_328 ⟨⟨rfl, rfl⟩, ⟨by decide, by decide⟩, by decide, by decide⟩ (Fo_K0 (Fo_of hG (by decide))) (Fo_c0 (Fo_of hG (by decide)) _) rfl (As := [.int a1, .int a2, .int a3]) rfl rfl (Nat.le_of_ble_eq_true rfl) (fun m15 q16 => ?_)
    have h := h m15 q16
    refine x_aload_n (pc := 45) dX6_link_45 1 rfl rfl ?_
    refine x_get (pc := 46) 0 0 dX6_link_46 (mK hG (by decide)) (mc_0 hG _) rfl inX6 (by decide) tb_192 rfl rfl ?_
    obtain ⟨Q17, hc18, h⟩ := h
    refine x_callVI (pc := 49) 1 hc18 ok_X1_edgeCount dX6_link_49 tb_332 ⟨⟨rfl, rfl⟩, ⟨by decide, by decide⟩, by decide, by decide⟩ (Fo_K0 (Fo_of hG (by decide))) (Fo_c0 (Fo_of hG (by decide)) _) rfl (As := []) rfl rfl (Nat.le_of_ble_eq_true rfl) (fun r19 m20 q21 => ?_)
    have h := h r19 m20 q21
    exact x_endI (pc := 52) dX6_link_52 rfl h
  · have h := h.2 c6
    refine x_iload (pc := 21) dX6_link_21 0 rfl ?_
    exact x_endI (pc := 23) dX6_link_23 rfl h
set_option maxRecDepth 100000 in
set_option maxHeartbeats 4000000 in
theorem t_X6_cut_0 {l : Launch} {G : Gx} {P : Int32 → Mem → Prop} (hG : Mn G) (a1 : Int32) (a2 : Int32) (mem : Mem)
    (h : ∃ Q1 : Int32 → Mem → Prop, CtI l M_X6_cutError G [.ref (gA G 1), .int a1, .int a2] mem Q1 ∧ ∀ (r3 : Int32) (m4 : Mem), Q1 r3 m4 → ((r3 = 0 → (∃ Q7 : Int32 → Mem → Prop, CtI l M_X1_edgeBetween G [.ref (gA G 1), .int a1, .int a2] m4 Q7 ∧ ∀ (r9 : Int32) (m10 : Mem), Q7 r9 m10 → (∃ Q12 : Mem → Prop, CtV l M_X2_remember G [.ref (gA G 79), .ref (gA G 1)] m10 Q12 ∧ ∀ m15 : Mem, Q12 m15 → (∃ Q17 : Mem → Prop, CtV l M_X1_putEdge G [.ref (gA G 1), .int a1, .int a2, .int 0] m15 Q17 ∧ ∀ m20 : Mem, Q17 m20 → (P r9 m20))))) ∧ (¬ r3 = 0 → (P r3 m4)))) :
    XI l M_X6_cut G P mem 0 [(0, .ref (gA G 0)), (1, .int a1), (2, .int a2)] [] := by
  refine x_aload_n (pc := 0) dX6_cut_0 0 rfl rfl ?_
  refine x_get (pc := 1) 0 0 dX6_cut_1 (mK hG (by decide)) (mc_0 hG _) rfl inX6 (by decide) tb_192 rfl rfl ?_
  refine x_iload_n (pc := 4) dX6_cut_4 1 rfl rfl ?_
  refine x_iload_n (pc := 5) dX6_cut_5 2 rfl rfl ?_
  obtain ⟨Q1, hc2, h⟩ := h
  refine x_callSI (pc := 6) hc2 ok_X6_cutError dX6_cut_6 tb_341 ⟨⟨rfl, rfl⟩, ⟨by decide, by decide⟩, by decide, by decide⟩ rfl rfl (Nat.le_of_ble_eq_true rfl) (fun r3 m4 q5 => ?_)
  have h := h r3 m4 q5
  refine x_istore_n (pc := 9) dX6_cut_9 rfl (by decide) rfl ?_
  refine x_iload_n (pc := 10) dX6_cut_10 0 rfl rfl ?_
  refine x_if_eq (pc := 11) (tgt := 16) dX6_cut_11 (by decide) (fun c6 => ?_) (fun c6 => ?_)
  · have h := h.1 c6
    refine x_aload_n (pc := 16) dX6_cut_16 1 rfl rfl ?_
    refine x_get (pc := 17) 0 0 dX6_cut_17 (mK hG (by decide)) (mc_0 hG _) rfl inX6 (by decide) tb_192 rfl rfl ?_
    refine x_iload_n (pc := 20) dX6_cut_20 2 rfl rfl ?_
    refine x_iload_n (pc := 21) dX6_cut_21 3 rfl rfl ?_
    obtain ⟨Q7, hc8, h⟩ := h
    refine x_callVI (pc := 22) 1 hc8 ok_X1_edgeBetween dX6_cut_22 tb_276 ⟨⟨rfl, rfl⟩, ⟨by decide, by decide⟩, by decide, by decide⟩ (Fo_K0 (Fo_of hG (by decide))) (Fo_c0 (Fo_of hG (by decide)) _) rfl (As := [.int a1, .int a2]) rfl rfl (Nat.le_of_ble_eq_true rfl) (fun r9 m10 q11 => ?_)
    have h := h r9 m10 q11
    refine x_istore (pc := 25) dX6_cut_25 (by decide) rfl ?_
    refine x_aload_n (pc := 27) dX6_cut_27 2 rfl rfl ?_
    refine x_get (pc := 28) 0 6 dX6_cut_28 (mK hG (by decide)) (mc_0 hG _) rfl inX6 (by decide) tb_198 rfl rfl ?_
    refine x_aload_n (pc := 31) dX6_cut_31 2 rfl rfl ?_
    refine x_get (pc := 32) 0 0 dX6_cut_32 (mK hG (by decide)) (mc_0 hG _) rfl inX6 (by decide) tb_192 rfl rfl ?_
    obtain ⟨Q12, hc13, h⟩ := h
    refine x_callVV (pc := 35) 79 hc13 ok_X2_remember dX6_cut_35 tb_316 ⟨⟨rfl, rfl⟩, ⟨by decide, by decide⟩, by decide, by decide⟩ (mK hG (by decide)) (mc_79 hG _) rfl (As := [.ref (gA G 1)]) rfl rfl (Nat.le_of_ble_eq_true rfl) (fun m15 q16 => ?_)
    have h := h m15 q16
    refine x_aload_n (pc := 38) dX6_cut_38 2 rfl rfl ?_
    refine x_get (pc := 39) 0 0 dX6_cut_39 (mK hG (by decide)) (mc_0 hG _) rfl inX6 (by decide) tb_192 rfl rfl ?_
    refine x_iload_n (pc := 42) dX6_cut_42 3 rfl rfl ?_
    refine x_iload_n (pc := 43) dX6_cut_43 4 rfl rfl ?_
    refine x_iconst (pc := 44) (v := 0) dX6_cut_44 (by decide) ?_
    obtain ⟨Q17, hc18, h⟩ := h
    refine x_callVV (pc := 45) 1 hc18 ok_X1_putEdge dX6_cut_45 tb_328 ⟨⟨rfl, rfl⟩, ⟨by decide, by decide⟩, by decide, by decide⟩ (Fo_K0 (Fo_of hG (by decide))) (Fo_c0 (Fo_of hG (by decide)) _) rfl (As := [.int a1, .int a2, .int 0]) rfl rfl (Nat.le_of_ble_eq_true rfl) (fun m20 q21 => ?_)
    have h := h m20 q21
    refine x_iload (pc := 48) dX6_cut_48 0 rfl ?_
    exact x_endI (pc := 50) dX6_cut_50 rfl h
  · have h := h.2 c6
    refine x_iload_n (pc := 14) dX6_cut_14 0 rfl rfl ?_
    exact x_endI (pc := 15) dX6_cut_15 rfl h
set_option maxRecDepth 100000 in
set_option maxHeartbeats 4000000 in
theorem t_X6_setEdgeWeight_0 {l : Launch} {G : Gx} {P : Int32 → Mem → Prop} (hG : Mn G) (a1 : Int32) (a2 : Int32) (a3 : Int32) (mem : Mem)
    (h : ∃ Q1 : Int32 → Mem → Prop, CtI l M_X1_hasVertices G [.ref (gA G 1), .int a1, .int a2] mem Q1 ∧ ∀ (r3 : Int32) (m4 : Mem), Q1 r3 m4 → ((¬ r3 = 0 → ((a3 < 1 → (P (-2) m4)) ∧ (¬ a3 < 1 → ((a3 ≤ 99 → (∃ Q9 : Int32 → Mem → Prop, CtI l M_X1_hasEdge G [.ref (gA G 1), .int a1, .int a2] m4 Q9 ∧ ∀ (r11 : Int32) (m12 : Mem), Q9 r11 m12 → ((¬ r11 = 0 → (∃ Q15 : Int32 → Mem → Prop, CtI l M_X1_edgeBetween G [.ref (gA G 1), .int a1, .int a2] m12 Q15 ∧ ∀ (r17 : Int32) (m18 : Mem), Q15 r17 m18 → (∃ Q20 : Mem → Prop, CtV l M_X2_remember G [.ref (gA G 79), .ref (gA G 1)] m18 Q20 ∧ ∀ m23 : Mem, Q20 m23 → (∃ Q25 : Mem → Prop, CtV l M_X1_putEdge G [.ref (gA G 1), .int a1, .int a2, .int a3] m23 Q25 ∧ ∀ m28 : Mem, Q25 m28 → (P r17 m28))))) ∧ (r11 = 0 → (P (-3) m12))))) ∧ (¬ a3 ≤ 99 → (P (-2) m4)))))) ∧ (r3 = 0 → (P (-1) m4)))) :
    XI l M_X6_setEdgeWeight G P mem 0 [(0, .ref (gA G 0)), (1, .int a1), (2, .int a2), (3, .int a3)] [] := by
  refine x_aload_n (pc := 0) dX6_setEdgeWeight_0 0 rfl rfl ?_
  refine x_get (pc := 1) 0 0 dX6_setEdgeWeight_1 (mK hG (by decide)) (mc_0 hG _) rfl inX6 (by decide) tb_192 rfl rfl ?_
  refine x_iload_n (pc := 4) dX6_setEdgeWeight_4 1 rfl rfl ?_
  refine x_iload_n (pc := 5) dX6_setEdgeWeight_5 2 rfl rfl ?_
  obtain ⟨Q1, hc2, h⟩ := h
  refine x_callVI (pc := 6) 1 hc2 ok_X1_hasVertices dX6_setEdgeWeight_6 tb_263 ⟨⟨rfl, rfl⟩, ⟨by decide, by decide⟩, by decide, by decide⟩ (Fo_K0 (Fo_of hG (by decide))) (Fo_c0 (Fo_of hG (by decide)) _) rfl (As := [.int a1, .int a2]) rfl rfl (Nat.le_of_ble_eq_true rfl) (fun r3 m4 q5 => ?_)
  have h := h r3 m4 q5
  refine x_if_ne (pc := 9) (tgt := 14) dX6_setEdgeWeight_9 (by decide) (fun c6 => ?_) (fun c6 => ?_)
  · have h := h.1 c6
    refine x_iload_n (pc := 14) dX6_setEdgeWeight_14 3 rfl rfl ?_
    refine x_iconst (pc := 15) (v := 1) dX6_setEdgeWeight_15 (by decide) ?_
    refine x_icmp_lt (pc := 16) (tgt := 25) dX6_setEdgeWeight_16 (by decide) (fun c7 => ?_) (fun c7 => ?_)
    · have h := h.1 c7
      refine x_bipush (pc := 25) (v := (-2)) dX6_setEdgeWeight_25 (by decide) ?_
      exact x_endI (pc := 27) dX6_setEdgeWeight_27 rfl h
    · have h := h.2 c7
      refine x_iload_n (pc := 19) dX6_setEdgeWeight_19 3 rfl rfl ?_
      refine x_bipush (pc := 20) (v := 99) dX6_setEdgeWeight_20 (by decide) ?_
      refine x_icmp_le (pc := 22) (tgt := 28) dX6_setEdgeWeight_22 (by decide) (fun c8 => ?_) (fun c8 => ?_)
      · have h := h.1 c8
        refine x_aload_n (pc := 28) dX6_setEdgeWeight_28 0 rfl rfl ?_
        refine x_get (pc := 29) 0 0 dX6_setEdgeWeight_29 (mK hG (by decide)) (mc_0 hG _) rfl inX6 (by decide) tb_192 rfl rfl ?_
        refine x_iload_n (pc := 32) dX6_setEdgeWeight_32 1 rfl rfl ?_
        refine x_iload_n (pc := 33) dX6_setEdgeWeight_33 2 rfl rfl ?_
        obtain ⟨Q9, hc10, h⟩ := h
        refine x_callVI (pc := 34) 1 hc10 ok_X1_hasEdge dX6_setEdgeWeight_34 tb_267 ⟨⟨rfl, rfl⟩, ⟨by decide, by decide⟩, by decide, by decide⟩ (Fo_K0 (Fo_of hG (by decide))) (Fo_c0 (Fo_of hG (by decide)) _) rfl (As := [.int a1, .int a2]) rfl rfl (Nat.le_of_ble_eq_true rfl) (fun r11 m12 q13 => ?_)
        have h := h r11 m12 q13
        refine x_if_ne (pc := 37) (tgt := 43) dX6_setEdgeWeight_37 (by decide) (fun c14 => ?_) (fun c14 => ?_)
        · have h := h.1 c14
          refine x_aload_n (pc := 43) dX6_setEdgeWeight_43 0 rfl rfl ?_
          refine x_get (pc := 44) 0 0 dX6_setEdgeWeight_44 (mK hG (by decide)) (mc_0 hG _) rfl inX6 (by decide) tb_192 rfl rfl ?_
          refine x_iload_n (pc := 47) dX6_setEdgeWeight_47 1 rfl rfl ?_
          refine x_iload_n (pc := 48) dX6_setEdgeWeight_48 2 rfl rfl ?_
          obtain ⟨Q15, hc16, h⟩ := h
          refine x_callVI (pc := 49) 1 hc16 ok_X1_edgeBetween dX6_setEdgeWeight_49 tb_276 ⟨⟨rfl, rfl⟩, ⟨by decide, by decide⟩, by decide, by decide⟩ (Fo_K0 (Fo_of hG (by decide))) (Fo_c0 (Fo_of hG (by decide)) _) rfl (As := [.int a1, .int a2]) rfl rfl (Nat.le_of_ble_eq_true rfl) (fun r17 m18 q19 => ?_)
          have h := h r17 m18 q19
          refine x_istore (pc := 52) dX6_setEdgeWeight_52 (by decide) rfl ?_
          refine x_aload_n (pc := 54) dX6_setEdgeWeight_54 1 rfl rfl ?_
          refine x_get (pc := 55) 0 6 dX6_setEdgeWeight_55 (mK hG (by decide)) (mc_0 hG _) rfl inX6 (by decide) tb_198 rfl rfl ?_
          refine x_aload_n (pc := 58) dX6_setEdgeWeight_58 1 rfl rfl ?_
          refine x_get (pc := 59) 0 0 dX6_setEdgeWeight_59 (mK hG (by decide)) (mc_0 hG _) rfl inX6 (by decide) tb_192 rfl rfl ?_
          obtain ⟨Q20, hc21, h⟩ := h
          refine x_callVV (pc := 62) 79 hc21 ok_X2_remember dX6_setEdgeWeight_62 tb_316 ⟨⟨rfl, rfl⟩, ⟨by decide, by decide⟩, by decide, by decide⟩ (mK hG (by decide)) (mc_79 hG _) rfl (As := [.ref (gA G 1)]) rfl rfl (Nat.le_of_ble_eq_true rfl) (fun m23 q24 => ?_)
          have h := h m23 q24
          refine x_aload_n (pc := 65) dX6_setEdgeWeight_65 1 rfl rfl ?_
          refine x_get (pc := 66) 0 0 dX6_setEdgeWeight_66 (mK hG (by decide)) (mc_0 hG _) rfl inX6 (by decide) tb_192 rfl rfl ?_
          refine x_iload_n (pc := 69) dX6_setEdgeWeight_69 2 rfl rfl ?_
          refine x_iload_n (pc := 70) dX6_setEdgeWeight_70 3 rfl rfl ?_
          refine x_iload_n (pc := 71) dX6_setEdgeWeight_71 4 rfl rfl ?_
          obtain ⟨Q25, hc26, h⟩ := h
          refine x_callVV (pc := 72) 1 hc26 ok_X1_putEdge dX6_setEdgeWeight_72 tb_328 ⟨⟨rfl, rfl⟩, ⟨by decide, by decide⟩, by decide, by decide⟩ (Fo_K0 (Fo_of hG (by decide))) (Fo_c0 (Fo_of hG (by decide)) _) rfl (As := [.int a1, .int a2, .int a3]) rfl rfl (Nat.le_of_ble_eq_true rfl) (fun m28 q29 => ?_)
          have h := h m28 q29
          refine x_iload (pc := 75) dX6_setEdgeWeight_75 0 rfl ?_
          exact x_endI (pc := 77) dX6_setEdgeWeight_77 rfl h
        · have h := h.2 c14
          refine x_bipush (pc := 40) (v := (-3)) dX6_setEdgeWeight_40 (by decide) ?_
          exact x_endI (pc := 42) dX6_setEdgeWeight_42 rfl h
      · have h := h.2 c8
        refine x_bipush (pc := 25) (v := (-2)) dX6_setEdgeWeight_25 (by decide) ?_
        exact x_endI (pc := 27) dX6_setEdgeWeight_27 rfl h
  · have h := h.2 c6
    refine x_iconst (pc := 12) (v := (-1)) dX6_setEdgeWeight_12 (by decide) ?_
    exact x_endI (pc := 13) dX6_setEdgeWeight_13 rfl h
set_option maxRecDepth 100000 in
set_option maxHeartbeats 4000000 in
theorem t_X6_setVertexWeight_0 {l : Launch} {G : Gx} {P : Int32 → Mem → Prop} (hG : Mn G) (a1 : Int32) (a2 : Int32) (mem : Mem)
    (h : ∃ Q1 : Int32 → Mem → Prop, CtI l M_X1_hasVertex G [.ref (gA G 1), .int a1] mem Q1 ∧ ∀ (r3 : Int32) (m4 : Mem), Q1 r3 m4 → ((¬ r3 = 0 → ((a2 < 0 → (P (-2) m4)) ∧ (¬ a2 < 0 → ((a2 ≤ 99 → (∃ Q9 : Int32 → Mem → Prop, CtI l M_X1_weightOf G [.ref (gA G 1), .int a1] m4 Q9 ∧ ∀ (r11 : Int32) (m12 : Mem), Q9 r11 m12 → (∃ Q14 : Mem → Prop, CtV l M_X2_remember G [.ref (gA G 79), .ref (gA G 1)] m12 Q14 ∧ ∀ m17 : Mem, Q14 m17 → (∃ Q19 : Mem → Prop, CtV l M_X1_putWeight G [.ref (gA G 1), .int a1, .int a2] m17 Q19 ∧ ∀ m22 : Mem, Q19 m22 → (P r11 m22))))) ∧ (¬ a2 ≤ 99 → (P (-2) m4)))))) ∧ (r3 = 0 → (P (-1) m4)))) :
    XI l M_X6_setVertexWeight G P mem 0 [(0, .ref (gA G 0)), (1, .int a1), (2, .int a2)] [] := by
  refine x_aload_n (pc := 0) dX6_setVertexWeight_0 0 rfl rfl ?_
  refine x_get (pc := 1) 0 0 dX6_setVertexWeight_1 (mK hG (by decide)) (mc_0 hG _) rfl inX6 (by decide) tb_192 rfl rfl ?_
  refine x_iload_n (pc := 4) dX6_setVertexWeight_4 1 rfl rfl ?_
  obtain ⟨Q1, hc2, h⟩ := h
  refine x_callVI (pc := 5) 1 hc2 ok_X1_hasVertex dX6_setVertexWeight_5 tb_238 ⟨⟨rfl, rfl⟩, ⟨by decide, by decide⟩, by decide, by decide⟩ (Fo_K0 (Fo_of hG (by decide))) (Fo_c0 (Fo_of hG (by decide)) _) rfl (As := [.int a1]) rfl rfl (Nat.le_of_ble_eq_true rfl) (fun r3 m4 q5 => ?_)
  have h := h r3 m4 q5
  refine x_if_ne (pc := 8) (tgt := 13) dX6_setVertexWeight_8 (by decide) (fun c6 => ?_) (fun c6 => ?_)
  · have h := h.1 c6
    refine x_iload_n (pc := 13) dX6_setVertexWeight_13 2 rfl rfl ?_
    refine x_if_lt (pc := 14) (tgt := 23) dX6_setVertexWeight_14 (by decide) (fun c7 => ?_) (fun c7 => ?_)
    · have h := h.1 c7
      refine x_bipush (pc := 23) (v := (-2)) dX6_setVertexWeight_23 (by decide) ?_
      exact x_endI (pc := 25) dX6_setVertexWeight_25 rfl h
    · have h := h.2 c7
      refine x_iload_n (pc := 17) dX6_setVertexWeight_17 2 rfl rfl ?_
      refine x_bipush (pc := 18) (v := 99) dX6_setVertexWeight_18 (by decide) ?_
      refine x_icmp_le (pc := 20) (tgt := 26) dX6_setVertexWeight_20 (by decide) (fun c8 => ?_) (fun c8 => ?_)
      · have h := h.1 c8
        refine x_aload_n (pc := 26) dX6_setVertexWeight_26 0 rfl rfl ?_
        refine x_get (pc := 27) 0 0 dX6_setVertexWeight_27 (mK hG (by decide)) (mc_0 hG _) rfl inX6 (by decide) tb_192 rfl rfl ?_
        refine x_iload_n (pc := 30) dX6_setVertexWeight_30 1 rfl rfl ?_
        obtain ⟨Q9, hc10, h⟩ := h
        refine x_callVI (pc := 31) 1 hc10 ok_X1_weightOf dX6_setVertexWeight_31 tb_242 ⟨⟨rfl, rfl⟩, ⟨by decide, by decide⟩, by decide, by decide⟩ (Fo_K0 (Fo_of hG (by decide))) (Fo_c0 (Fo_of hG (by decide)) _) rfl (As := [.int a1]) rfl rfl (Nat.le_of_ble_eq_true rfl) (fun r11 m12 q13 => ?_)
        have h := h r11 m12 q13
        refine x_istore_n (pc := 34) dX6_setVertexWeight_34 rfl (by decide) rfl ?_
        refine x_aload_n (pc := 35) dX6_setVertexWeight_35 1 rfl rfl ?_
        refine x_get (pc := 36) 0 6 dX6_setVertexWeight_36 (mK hG (by decide)) (mc_0 hG _) rfl inX6 (by decide) tb_198 rfl rfl ?_
        refine x_aload_n (pc := 39) dX6_setVertexWeight_39 1 rfl rfl ?_
        refine x_get (pc := 40) 0 0 dX6_setVertexWeight_40 (mK hG (by decide)) (mc_0 hG _) rfl inX6 (by decide) tb_192 rfl rfl ?_
        obtain ⟨Q14, hc15, h⟩ := h
        refine x_callVV (pc := 43) 79 hc15 ok_X2_remember dX6_setVertexWeight_43 tb_316 ⟨⟨rfl, rfl⟩, ⟨by decide, by decide⟩, by decide, by decide⟩ (mK hG (by decide)) (mc_79 hG _) rfl (As := [.ref (gA G 1)]) rfl rfl (Nat.le_of_ble_eq_true rfl) (fun m17 q18 => ?_)
        have h := h m17 q18
        refine x_aload_n (pc := 46) dX6_setVertexWeight_46 1 rfl rfl ?_
        refine x_get (pc := 47) 0 0 dX6_setVertexWeight_47 (mK hG (by decide)) (mc_0 hG _) rfl inX6 (by decide) tb_192 rfl rfl ?_
        refine x_iload_n (pc := 50) dX6_setVertexWeight_50 2 rfl rfl ?_
        refine x_iload_n (pc := 51) dX6_setVertexWeight_51 3 rfl rfl ?_
        obtain ⟨Q19, hc20, h⟩ := h
        refine x_callVV (pc := 52) 1 hc20 ok_X1_putWeight dX6_setVertexWeight_52 tb_352 ⟨⟨rfl, rfl⟩, ⟨by decide, by decide⟩, by decide, by decide⟩ (Fo_K0 (Fo_of hG (by decide))) (Fo_c0 (Fo_of hG (by decide)) _) rfl (As := [.int a1, .int a2]) rfl rfl (Nat.le_of_ble_eq_true rfl) (fun m22 q23 => ?_)
        have h := h m22 q23
        refine x_iload_n (pc := 55) dX6_setVertexWeight_55 0 rfl rfl ?_
        exact x_endI (pc := 56) dX6_setVertexWeight_56 rfl h
      · have h := h.2 c8
        refine x_bipush (pc := 23) (v := (-2)) dX6_setVertexWeight_23 (by decide) ?_
        exact x_endI (pc := 25) dX6_setVertexWeight_25 rfl h
  · have h := h.2 c6
    refine x_iconst (pc := 11) (v := (-1)) dX6_setVertexWeight_11 (by decide) ?_
    exact x_endI (pc := 12) dX6_setVertexWeight_12 rfl h
set_option maxRecDepth 100000 in
set_option maxHeartbeats 4000000 in
theorem t_X6_undo_0 {l : Launch} {G : Gx} {P : Int32 → Mem → Prop} (hG : Mn G)  (mem : Mem)
    (h : ∃ Q1 : Int32 → Mem → Prop, CtI l M_X2_takeBack G [.ref (gA G 79), .ref (gA G 1)] mem Q1 ∧ ∀ (r3 : Int32) (m4 : Mem), Q1 r3 m4 → ((r3 = 0 → (P (-3) m4)) ∧ (¬ r3 = 0 → (∃ Q7 : Int32 → Mem → Prop, CtI l M_X2_size G [.ref (gA G 79)] m4 Q7 ∧ ∀ (r9 : Int32) (m10 : Mem), Q7 r9 m10 → (P r9 m10))))) :
    XI l M_X6_undo G P mem 0 [(0, .ref (gA G 0))] [] := by
  refine x_aload_n (pc := 0) dX6_undo_0 0 rfl rfl ?_
  refine x_get (pc := 1) 0 6 dX6_undo_1 (mK hG (by decide)) (mc_0 hG _) rfl inX6 (by decide) tb_198 rfl rfl ?_
  refine x_aload_n (pc := 4) dX6_undo_4 0 rfl rfl ?_
  refine x_get (pc := 5) 0 0 dX6_undo_5 (mK hG (by decide)) (mc_0 hG _) rfl inX6 (by decide) tb_192 rfl rfl ?_
  obtain ⟨Q1, hc2, h⟩ := h
  refine x_callVI (pc := 8) 79 hc2 ok_X2_takeBack dX6_undo_8 tb_735 ⟨⟨rfl, rfl⟩, ⟨by decide, by decide⟩, by decide, by decide⟩ (mK hG (by decide)) (mc_79 hG _) rfl (As := [.ref (gA G 1)]) rfl rfl (Nat.le_of_ble_eq_true rfl) (fun r3 m4 q5 => ?_)
  have h := h r3 m4 q5
  refine x_if_eq (pc := 11) (tgt := 24) dX6_undo_11 (by decide) (fun c6 => ?_) (fun c6 => ?_)
  · have h := h.1 c6
    refine x_bipush (pc := 24) (v := (-3)) dX6_undo_24 (by decide) ?_
    exact x_endI (pc := 26) dX6_undo_26 rfl h
  · have h := h.2 c6
    refine x_aload_n (pc := 14) dX6_undo_14 0 rfl rfl ?_
    refine x_get (pc := 15) 0 6 dX6_undo_15 (mK hG (by decide)) (mc_0 hG _) rfl inX6 (by decide) tb_198 rfl rfl ?_
    obtain ⟨Q7, hc8, h⟩ := h
    refine x_callVI (pc := 18) 79 hc8 ok_X2_size dX6_undo_18 tb_739 ⟨⟨rfl, rfl⟩, ⟨by decide, by decide⟩, by decide, by decide⟩ (mK hG (by decide)) (mc_79 hG _) rfl (As := []) rfl rfl (Nat.le_of_ble_eq_true rfl) (fun r9 m10 q11 => ?_)
    have h := h r9 m10 q11
    refine x_goto (pc := 21) (tgt := 26) dX6_undo_21 (by decide) ?_
    exact x_endI (pc := 26) dX6_undo_26 rfl h
set_option maxRecDepth 100000 in
set_option maxHeartbeats 4000000 in
theorem t_X6_linkError_0 {l : Launch} {G : Gx} {P : Int32 → Mem → Prop} {f : Nat} (hf : Fo G f) {s : Nat} (hs : Sv G s) (a2 : Int32) (a3 : Int32) (a4 : Int32) (mem : Mem)
    (h : ∃ Q1 : Int32 → Mem → Prop, CtI l M_X1_hasVertices G [.ref (gA G f), .int a2, .int a3] mem Q1 ∧ ∀ (r3 : Int32) (m4 : Mem), Q1 r3 m4 → ((¬ r3 = 0 → ((a4 < 1 → (P (-2) m4)) ∧ (¬ a4 < 1 → ((a4 ≤ 99 → (∃ Q9 : Mem → Prop, CtV l M_X5_measure G [.ref (gA G s)] m4 Q9 ∧ ∀ m12 : Mem, Q9 m12 → (∃ Q14 : Int32 → Mem → Prop, CtI l M_X5_joined G [.ref (gA G s), .int a2, .int a3] m12 Q14 ∧ ∀ (r16 : Int32) (m17 : Mem), Q14 r16 m17 → ((r16 = 0 → (P 0 m17)) ∧ (¬ r16 = 0 → (P (-3) m17)))))) ∧ (¬ a4 ≤ 99 → (P (-2) m4)))))) ∧ (r3 = 0 → (P (-1) m4)))) :
    XI l M_X6_linkError G P mem 0 [(0, .ref (gA G f)), (1, .ref (gA G s)), (2, .int a2), (3, .int a3), (4, .int a4)] [] := by
  refine x_aload_n (pc := 0) dX6_linkError_0 0 rfl rfl ?_
  refine x_iload_n (pc := 1) dX6_linkError_1 2 rfl rfl ?_
  refine x_iload_n (pc := 2) dX6_linkError_2 3 rfl rfl ?_
  obtain ⟨Q1, hc2, h⟩ := h
  refine x_callVI (pc := 3) f hc2 ok_X1_hasVertices dX6_linkError_3 tb_263 ⟨⟨rfl, rfl⟩, ⟨by decide, by decide⟩, by decide, by decide⟩ (Fo_K0 hf) (Fo_c0 hf _) rfl (As := [.int a2, .int a3]) rfl rfl (Nat.le_of_ble_eq_true rfl) (fun r3 m4 q5 => ?_)
  have h := h r3 m4 q5
  refine x_if_ne (pc := 6) (tgt := 11) dX6_linkError_6 (by decide) (fun c6 => ?_) (fun c6 => ?_)
  · have h := h.1 c6
    refine x_iload (pc := 11) dX6_linkError_11 4 rfl ?_
    refine x_iconst (pc := 13) (v := 1) dX6_linkError_13 (by decide) ?_
    refine x_icmp_lt (pc := 14) (tgt := 24) dX6_linkError_14 (by decide) (fun c7 => ?_) (fun c7 => ?_)
    · have h := h.1 c7
      refine x_bipush (pc := 24) (v := (-2)) dX6_linkError_24 (by decide) ?_
      exact x_endI (pc := 26) dX6_linkError_26 rfl h
    · have h := h.2 c7
      refine x_iload (pc := 17) dX6_linkError_17 4 rfl ?_
      refine x_bipush (pc := 19) (v := 99) dX6_linkError_19 (by decide) ?_
      refine x_icmp_le (pc := 21) (tgt := 27) dX6_linkError_21 (by decide) (fun c8 => ?_) (fun c8 => ?_)
      · have h := h.1 c8
        refine x_aload_n (pc := 27) dX6_linkError_27 1 rfl rfl ?_
        obtain ⟨Q9, hc10, h⟩ := h
        refine x_callVV (pc := 28) s hc10 ok_X5_measure dX6_linkError_28 tb_281 ⟨⟨rfl, rfl⟩, ⟨by decide, by decide⟩, by decide, by decide⟩ (Sv_K0 hs) (Sv_c0 hs _) rfl (As := []) rfl rfl (Nat.le_of_ble_eq_true rfl) (fun m12 q13 => ?_)
        have h := h m12 q13
        refine x_aload_n (pc := 31) dX6_linkError_31 1 rfl rfl ?_
        refine x_iload_n (pc := 32) dX6_linkError_32 2 rfl rfl ?_
        refine x_iload_n (pc := 33) dX6_linkError_33 3 rfl rfl ?_
        obtain ⟨Q14, hc15, h⟩ := h
        refine x_callVI (pc := 34) s hc15 ok_X5_joined dX6_linkError_34 tb_315 ⟨⟨rfl, rfl⟩, ⟨by decide, by decide⟩, by decide, by decide⟩ (Sv_K0 hs) (Sv_c0 hs _) rfl (As := [.int a2, .int a3]) rfl rfl (Nat.le_of_ble_eq_true rfl) (fun r16 m17 q18 => ?_)
        have h := h r16 m17 q18
        refine x_if_eq (pc := 37) (tgt := 45) dX6_linkError_37 (by decide) (fun c19 => ?_) (fun c19 => ?_)
        · have h := h.1 c19
          refine x_iconst (pc := 45) (v := 0) dX6_linkError_45 (by decide) ?_
          exact x_endI (pc := 46) dX6_linkError_46 rfl h
        · have h := h.2 c19
          refine x_bipush (pc := 40) (v := (-3)) dX6_linkError_40 (by decide) ?_
          refine x_goto (pc := 42) (tgt := 46) dX6_linkError_42 (by decide) ?_
          exact x_endI (pc := 46) dX6_linkError_46 rfl h
      · have h := h.2 c8
        refine x_bipush (pc := 24) (v := (-2)) dX6_linkError_24 (by decide) ?_
        exact x_endI (pc := 26) dX6_linkError_26 rfl h
  · have h := h.2 c6
    refine x_iconst (pc := 9) (v := (-1)) dX6_linkError_9 (by decide) ?_
    exact x_endI (pc := 10) dX6_linkError_10 rfl h
set_option maxRecDepth 100000 in
set_option maxHeartbeats 4000000 in
theorem t_X6_cutError_0 {l : Launch} {G : Gx} {P : Int32 → Mem → Prop} {f : Nat} (hf : Fo G f) (a1 : Int32) (a2 : Int32) (mem : Mem)
    (h : ∃ Q1 : Int32 → Mem → Prop, CtI l M_X1_hasVertices G [.ref (gA G f), .int a1, .int a2] mem Q1 ∧ ∀ (r3 : Int32) (m4 : Mem), Q1 r3 m4 → ((¬ r3 = 0 → (∃ Q7 : Int32 → Mem → Prop, CtI l M_X1_hasEdge G [.ref (gA G f), .int a1, .int a2] m4 Q7 ∧ ∀ (r9 : Int32) (m10 : Mem), Q7 r9 m10 → ((r9 = 0 → (P (-3) m10)) ∧ (¬ r9 = 0 → (P 0 m10))))) ∧ (r3 = 0 → (P (-1) m4)))) :
    XI l M_X6_cutError G P mem 0 [(0, .ref (gA G f)), (1, .int a1), (2, .int a2)] [] := by
  refine x_aload_n (pc := 0) dX6_cutError_0 0 rfl rfl ?_
  refine x_iload_n (pc := 1) dX6_cutError_1 1 rfl rfl ?_
  refine x_iload_n (pc := 2) dX6_cutError_2 2 rfl rfl ?_
  obtain ⟨Q1, hc2, h⟩ := h
  refine x_callVI (pc := 3) f hc2 ok_X1_hasVertices dX6_cutError_3 tb_263 ⟨⟨rfl, rfl⟩, ⟨by decide, by decide⟩, by decide, by decide⟩ (Fo_K0 hf) (Fo_c0 hf _) rfl (As := [.int a1, .int a2]) rfl rfl (Nat.le_of_ble_eq_true rfl) (fun r3 m4 q5 => ?_)
  have h := h r3 m4 q5
  refine x_if_ne (pc := 6) (tgt := 11) dX6_cutError_6 (by decide) (fun c6 => ?_) (fun c6 => ?_)
  · have h := h.1 c6
    refine x_aload_n (pc := 11) dX6_cutError_11 0 rfl rfl ?_
    refine x_iload_n (pc := 12) dX6_cutError_12 1 rfl rfl ?_
    refine x_iload_n (pc := 13) dX6_cutError_13 2 rfl rfl ?_
    obtain ⟨Q7, hc8, h⟩ := h
    refine x_callVI (pc := 14) f hc8 ok_X1_hasEdge dX6_cutError_14 tb_267 ⟨⟨rfl, rfl⟩, ⟨by decide, by decide⟩, by decide, by decide⟩ (Fo_K0 hf) (Fo_c0 hf _) rfl (As := [.int a1, .int a2]) rfl rfl (Nat.le_of_ble_eq_true rfl) (fun r9 m10 q11 => ?_)
    have h := h r9 m10 q11
    refine x_if_eq (pc := 17) (tgt := 24) dX6_cutError_17 (by decide) (fun c12 => ?_) (fun c12 => ?_)
    · have h := h.1 c12
      refine x_bipush (pc := 24) (v := (-3)) dX6_cutError_24 (by decide) ?_
      exact x_endI (pc := 26) dX6_cutError_26 rfl h
    · have h := h.2 c12
      refine x_iconst (pc := 20) (v := 0) dX6_cutError_20 (by decide) ?_
      refine x_goto (pc := 21) (tgt := 26) dX6_cutError_21 (by decide) ?_
      exact x_endI (pc := 26) dX6_cutError_26 rfl h
  · have h := h.2 c6
    refine x_iconst (pc := 9) (v := (-1)) dX6_cutError_9 (by decide) ?_
    exact x_endI (pc := 10) dX6_cutError_10 rfl h
set_option maxRecDepth 100000 in
set_option maxHeartbeats 4000000 in
theorem t_X6_distance_0 {l : Launch} {G : Gx} {P : Int32 → Mem → Prop} (hG : Mn G) (a1 : Int32) (a2 : Int32) (mem : Mem)
    (h : ∃ Q1 : Int32 → Mem → Prop, CtI l M_X1_hasVertices G [.ref (gA G 1), .int a1, .int a2] mem Q1 ∧ ∀ (r3 : Int32) (m4 : Mem), Q1 r3 m4 → ((¬ r3 = 0 → (∃ Q7 : Mem → Prop, CtV l M_X5_measure G [.ref (gA G 16)] m4 Q7 ∧ ∀ m10 : Mem, Q7 m10 → (∃ Q12 : Int32 → Mem → Prop, CtI l M_X5_joined G [.ref (gA G 16), .int a1, .int a2] m10 Q12 ∧ ∀ (r14 : Int32) (m15 : Mem), Q12 r14 m15 → ((r14 = 0 → (P (-9) m15)) ∧ (¬ r14 = 0 → (∃ Q18 : Int32 → Mem → Prop, CtI l M_X5_between G [.ref (gA G 16), .int a1, .int a2] m15 Q18 ∧ ∀ (r20 : Int32) (m21 : Mem), Q18 r20 m21 → (P r20 m21))))))) ∧ (r3 = 0 → (P (-1) m4)))) :
    XI l M_X6_distance G P mem 0 [(0, .ref (gA G 0)), (1, .int a1), (2, .int a2)] [] := by
  refine x_aload_n (pc := 0) dX6_distance_0 0 rfl rfl ?_
  refine x_get (pc := 1) 0 0 dX6_distance_1 (mK hG (by decide)) (mc_0 hG _) rfl inX6 (by decide) tb_192 rfl rfl ?_
  refine x_iload_n (pc := 4) dX6_distance_4 1 rfl rfl ?_
  refine x_iload_n (pc := 5) dX6_distance_5 2 rfl rfl ?_
  obtain ⟨Q1, hc2, h⟩ := h
  refine x_callVI (pc := 6) 1 hc2 ok_X1_hasVertices dX6_distance_6 tb_263 ⟨⟨rfl, rfl⟩, ⟨by decide, by decide⟩, by decide, by decide⟩ (Fo_K0 (Fo_of hG (by decide))) (Fo_c0 (Fo_of hG (by decide)) _) rfl (As := [.int a1, .int a2]) rfl rfl (Nat.le_of_ble_eq_true rfl) (fun r3 m4 q5 => ?_)
  have h := h r3 m4 q5
  refine x_if_ne (pc := 9) (tgt := 14) dX6_distance_9 (by decide) (fun c6 => ?_) (fun c6 => ?_)
  · have h := h.1 c6
    refine x_aload_n (pc := 14) dX6_distance_14 0 rfl rfl ?_
    refine x_get (pc := 15) 0 1 dX6_distance_15 (mK hG (by decide)) (mc_0 hG _) rfl inX6 (by decide) tb_193 rfl rfl ?_
    obtain ⟨Q7, hc8, h⟩ := h
    refine x_callVV (pc := 18) 16 hc8 ok_X5_measure dX6_distance_18 tb_281 ⟨⟨rfl, rfl⟩, ⟨by decide, by decide⟩, by decide, by decide⟩ (Sv_K0 ⟨Or.inl rfl, hG⟩) (Sv_c0 ⟨Or.inl rfl, hG⟩ _) rfl (As := []) rfl rfl (Nat.le_of_ble_eq_true rfl) (fun m10 q11 => ?_)
    have h := h m10 q11
    refine x_aload_n (pc := 21) dX6_distance_21 0 rfl rfl ?_
    refine x_get (pc := 22) 0 1 dX6_distance_22 (mK hG (by decide)) (mc_0 hG _) rfl inX6 (by decide) tb_193 rfl rfl ?_
    refine x_iload_n (pc := 25) dX6_distance_25 1 rfl rfl ?_
    refine x_iload_n (pc := 26) dX6_distance_26 2 rfl rfl ?_
    obtain ⟨Q12, hc13, h⟩ := h
    refine x_callVI (pc := 27) 16 hc13 ok_X5_joined dX6_distance_27 tb_315 ⟨⟨rfl, rfl⟩, ⟨by decide, by decide⟩, by decide, by decide⟩ (Sv_K0 ⟨Or.inl rfl, hG⟩) (Sv_c0 ⟨Or.inl rfl, hG⟩ _) rfl (As := [.int a1, .int a2]) rfl rfl (Nat.le_of_ble_eq_true rfl) (fun r14 m15 q16 => ?_)
    have h := h r14 m15 q16
    refine x_if_eq (pc := 30) (tgt := 45) dX6_distance_30 (by decide) (fun c17 => ?_) (fun c17 => ?_)
    · have h := h.1 c17
      refine x_bipush (pc := 45) (v := (-9)) dX6_distance_45 (by decide) ?_
      exact x_endI (pc := 47) dX6_distance_47 rfl h
    · have h := h.2 c17
      refine x_aload_n (pc := 33) dX6_distance_33 0 rfl rfl ?_
      refine x_get (pc := 34) 0 1 dX6_distance_34 (mK hG (by decide)) (mc_0 hG _) rfl inX6 (by decide) tb_193 rfl rfl ?_
      refine x_iload_n (pc := 37) dX6_distance_37 1 rfl rfl ?_
      refine x_iload_n (pc := 38) dX6_distance_38 2 rfl rfl ?_
      obtain ⟨Q18, hc19, h⟩ := h
      refine x_callVI (pc := 39) 16 hc19 ok_X5_between dX6_distance_39 tb_360 ⟨⟨rfl, rfl⟩, ⟨by decide, by decide⟩, by decide, by decide⟩ (Sv_K0 ⟨Or.inl rfl, hG⟩) (Sv_c0 ⟨Or.inl rfl, hG⟩ _) rfl (As := [.int a1, .int a2]) rfl rfl (Nat.le_of_ble_eq_true rfl) (fun r20 m21 q22 => ?_)
      have h := h r20 m21 q22
      refine x_goto (pc := 42) (tgt := 47) dX6_distance_42 (by decide) ?_
      exact x_endI (pc := 47) dX6_distance_47 rfl h
  · have h := h.2 c6
    refine x_iconst (pc := 12) (v := (-1)) dX6_distance_12 (by decide) ?_
    exact x_endI (pc := 13) dX6_distance_13 rfl h
set_option maxRecDepth 100000 in
set_option maxHeartbeats 4000000 in
theorem t_X6_pathVertex_0 {l : Launch} {G : Gx} {P : Int32 → Mem → Prop} (hG : Mn G) (a1 : Int32) (a2 : Int32) (a3 : Int32) (mem : Mem)
    (h : ∃ Q1 : Int32 → Mem → Prop, CtI l M_X1_hasVertices G [.ref (gA G 1), .int a1, .int a2] mem Q1 ∧ ∀ (r3 : Int32) (m4 : Mem), Q1 r3 m4 → ((¬ r3 = 0 → ((0 ≤ a3 → (∃ Q8 : Mem → Prop, CtV l M_X5_measure G [.ref (gA G 16)] m4 Q8 ∧ ∀ m11 : Mem, Q8 m11 → (∃ Q13 : Int32 → Mem → Prop, CtI l M_X5_vertexOnPath G [.ref (gA G 16), .int a1, .int a2, .int a3] m11 Q13 ∧ ∀ (r15 : Int32) (m16 : Mem), Q13 r15 m16 → (P r15 m16)))) ∧ (¬ 0 ≤ a3 → (P (-2) m4)))) ∧ (r3 = 0 → (P (-1) m4)))) :
    XI l M_X6_pathVertex G P mem 0 [(0, .ref (gA G 0)), (1, .int a1), (2, .int a2), (3, .int a3)] [] := by
  refine x_aload_n (pc := 0) dX6_pathVertex_0 0 rfl rfl ?_
  refine x_get (pc := 1) 0 0 dX6_pathVertex_1 (mK hG (by decide)) (mc_0 hG _) rfl inX6 (by decide) tb_192 rfl rfl ?_
  refine x_iload_n (pc := 4) dX6_pathVertex_4 1 rfl rfl ?_
  refine x_iload_n (pc := 5) dX6_pathVertex_5 2 rfl rfl ?_
  obtain ⟨Q1, hc2, h⟩ := h
  refine x_callVI (pc := 6) 1 hc2 ok_X1_hasVertices dX6_pathVertex_6 tb_263 ⟨⟨rfl, rfl⟩, ⟨by decide, by decide⟩, by decide, by decide⟩ (Fo_K0 (Fo_of hG (by decide))) (Fo_c0 (Fo_of hG (by decide)) _) rfl (As := [.int a1, .int a2]) rfl rfl (Nat.le_of_ble_eq_true rfl) (fun r3 m4 q5 => ?_)
  have h := h r3 m4 q5
  refine x_if_ne (pc := 9) (tgt := 14) dX6_pathVertex_9 (by decide) (fun c6 => ?_) (fun c6 => ?_)
  · have h := h.1 c6
    refine x_iload_n (pc := 14) dX6_pathVertex_14 3 rfl rfl ?_
    refine x_if_ge (pc := 15) (tgt := 21) dX6_pathVertex_15 (by decide) (fun c7 => ?_) (fun c7 => ?_)
    · have h := h.1 c7
      refine x_aload_n (pc := 21) dX6_pathVertex_21 0 rfl rfl ?_
      refine x_get (pc := 22) 0 1 dX6_pathVertex_22 (mK hG (by decide)) (mc_0 hG _) rfl inX6 (by decide) tb_193 rfl rfl ?_
      obtain ⟨Q8, hc9, h⟩ := h
      refine x_callVV (pc := 25) 16 hc9 ok_X5_measure dX6_pathVertex_25 tb_281 ⟨⟨rfl, rfl⟩, ⟨by decide, by decide⟩, by decide, by decide⟩ (Sv_K0 ⟨Or.inl rfl, hG⟩) (Sv_c0 ⟨Or.inl rfl, hG⟩ _) rfl (As := []) rfl rfl (Nat.le_of_ble_eq_true rfl) (fun m11 q12 => ?_)
      have h := h m11 q12
      refine x_aload_n (pc := 28) dX6_pathVertex_28 0 rfl rfl ?_
      refine x_get (pc := 29) 0 1 dX6_pathVertex_29 (mK hG (by decide)) (mc_0 hG _) rfl inX6 (by decide) tb_193 rfl rfl ?_
      refine x_iload_n (pc := 32) dX6_pathVertex_32 1 rfl rfl ?_
      refine x_iload_n (pc := 33) dX6_pathVertex_33 2 rfl rfl ?_
      refine x_iload_n (pc := 34) dX6_pathVertex_34 3 rfl rfl ?_
      obtain ⟨Q13, hc14, h⟩ := h
      refine x_callVI (pc := 35) 16 hc14 ok_X5_vertexOnPath dX6_pathVertex_35 tb_365 ⟨⟨rfl, rfl⟩, ⟨by decide, by decide⟩, by decide, by decide⟩ (Sv_K0 ⟨Or.inl rfl, hG⟩) (Sv_c0 ⟨Or.inl rfl, hG⟩ _) rfl (As := [.int a1, .int a2, .int a3]) rfl rfl (Nat.le_of_ble_eq_true rfl) (fun r15 m16 q17 => ?_)
      have h := h r15 m16 q17
      exact x_endI (pc := 38) dX6_pathVertex_38 rfl h
    · have h := h.2 c7
      refine x_bipush (pc := 18) (v := (-2)) dX6_pathVertex_18 (by decide) ?_
      exact x_endI (pc := 20) dX6_pathVertex_20 rfl h
  · have h := h.2 c6
    refine x_iconst (pc := 12) (v := (-1)) dX6_pathVertex_12 (by decide) ?_
    exact x_endI (pc := 13) dX6_pathVertex_13 rfl h
set_option maxRecDepth 100000 in
set_option maxHeartbeats 4000000 in
theorem t_X6_eccentricity_0 {l : Launch} {G : Gx} {P : Int32 → Mem → Prop} (hG : Mn G) (a1 : Int32) (mem : Mem)
    (h : ∃ Q1 : Int32 → Mem → Prop, CtI l M_X1_hasVertex G [.ref (gA G 1), .int a1] mem Q1 ∧ ∀ (r3 : Int32) (m4 : Mem), Q1 r3 m4 → ((¬ r3 = 0 → (∃ Q7 : Mem → Prop, CtV l M_X5_measure G [.ref (gA G 16)] m4 Q7 ∧ ∀ m10 : Mem, Q7 m10 → (∃ Q12 : Int32 → Mem → Prop, CtI l M_X5_greatestFrom G [.ref (gA G 16), .int a1] m10 Q12 ∧ ∀ (r14 : Int32) (m15 : Mem), Q12 r14 m15 → (P r14 m15)))) ∧ (r3 = 0 → (P (-1) m4)))) :
    XI l M_X6_eccentricity G P mem 0 [(0, .ref (gA G 0)), (1, .int a1)] [] := by
  refine x_aload_n (pc := 0) dX6_eccentricity_0 0 rfl rfl ?_
  refine x_get (pc := 1) 0 0 dX6_eccentricity_1 (mK hG (by decide)) (mc_0 hG _) rfl inX6 (by decide) tb_192 rfl rfl ?_
  refine x_iload_n (pc := 4) dX6_eccentricity_4 1 rfl rfl ?_
  obtain ⟨Q1, hc2, h⟩ := h
  refine x_callVI (pc := 5) 1 hc2 ok_X1_hasVertex dX6_eccentricity_5 tb_238 ⟨⟨rfl, rfl⟩, ⟨by decide, by decide⟩, by decide, by decide⟩ (Fo_K0 (Fo_of hG (by decide))) (Fo_c0 (Fo_of hG (by decide)) _) rfl (As := [.int a1]) rfl rfl (Nat.le_of_ble_eq_true rfl) (fun r3 m4 q5 => ?_)
  have h := h r3 m4 q5
  refine x_if_ne (pc := 8) (tgt := 13) dX6_eccentricity_8 (by decide) (fun c6 => ?_) (fun c6 => ?_)
  · have h := h.1 c6
    refine x_aload_n (pc := 13) dX6_eccentricity_13 0 rfl rfl ?_
    refine x_get (pc := 14) 0 1 dX6_eccentricity_14 (mK hG (by decide)) (mc_0 hG _) rfl inX6 (by decide) tb_193 rfl rfl ?_
    obtain ⟨Q7, hc8, h⟩ := h
    refine x_callVV (pc := 17) 16 hc8 ok_X5_measure dX6_eccentricity_17 tb_281 ⟨⟨rfl, rfl⟩, ⟨by decide, by decide⟩, by decide, by decide⟩ (Sv_K0 ⟨Or.inl rfl, hG⟩) (Sv_c0 ⟨Or.inl rfl, hG⟩ _) rfl (As := []) rfl rfl (Nat.le_of_ble_eq_true rfl) (fun m10 q11 => ?_)
    have h := h m10 q11
    refine x_aload_n (pc := 20) dX6_eccentricity_20 0 rfl rfl ?_
    refine x_get (pc := 21) 0 1 dX6_eccentricity_21 (mK hG (by decide)) (mc_0 hG _) rfl inX6 (by decide) tb_193 rfl rfl ?_
    refine x_iload_n (pc := 24) dX6_eccentricity_24 1 rfl rfl ?_
    obtain ⟨Q12, hc13, h⟩ := h
    refine x_callVI (pc := 25) 16 hc13 ok_X5_greatestFrom dX6_eccentricity_25 tb_378 ⟨⟨rfl, rfl⟩, ⟨by decide, by decide⟩, by decide, by decide⟩ (Sv_K0 ⟨Or.inl rfl, hG⟩) (Sv_c0 ⟨Or.inl rfl, hG⟩ _) rfl (As := [.int a1]) rfl rfl (Nat.le_of_ble_eq_true rfl) (fun r14 m15 q16 => ?_)
    have h := h r14 m15 q16
    exact x_endI (pc := 28) dX6_eccentricity_28 rfl h
  · have h := h.2 c6
    refine x_iconst (pc := 11) (v := (-1)) dX6_eccentricity_11 (by decide) ?_
    exact x_endI (pc := 12) dX6_eccentricity_12 rfl h
set_option maxRecDepth 100000 in
set_option maxHeartbeats 4000000 in
theorem t_X6_diameter_0 {l : Launch} {G : Gx} {P : Int32 → Mem → Prop} (hG : Mn G) (a1 : Int32) (mem : Mem)
    (h : ∃ Q1 : Int32 → Mem → Prop, CtI l M_X1_hasVertex G [.ref (gA G 1), .int a1] mem Q1 ∧ ∀ (r3 : Int32) (m4 : Mem), Q1 r3 m4 → ((¬ r3 = 0 → (∃ Q7 : Mem → Prop, CtV l M_X5_measure G [.ref (gA G 16)] m4 Q7 ∧ ∀ m10 : Mem, Q7 m10 → (∃ Q12 : Int32 → Mem → Prop, CtI l M_X5_widthAround G [.ref (gA G 16), .int a1] m10 Q12 ∧ ∀ (r14 : Int32) (m15 : Mem), Q12 r14 m15 → (P r14 m15)))) ∧ (r3 = 0 → (P (-1) m4)))) :
    XI l M_X6_diameter G P mem 0 [(0, .ref (gA G 0)), (1, .int a1)] [] := by
  refine x_aload_n (pc := 0) dX6_diameter_0 0 rfl rfl ?_
  refine x_get (pc := 1) 0 0 dX6_diameter_1 (mK hG (by decide)) (mc_0 hG _) rfl inX6 (by decide) tb_192 rfl rfl ?_
  refine x_iload_n (pc := 4) dX6_diameter_4 1 rfl rfl ?_
  obtain ⟨Q1, hc2, h⟩ := h
  refine x_callVI (pc := 5) 1 hc2 ok_X1_hasVertex dX6_diameter_5 tb_238 ⟨⟨rfl, rfl⟩, ⟨by decide, by decide⟩, by decide, by decide⟩ (Fo_K0 (Fo_of hG (by decide))) (Fo_c0 (Fo_of hG (by decide)) _) rfl (As := [.int a1]) rfl rfl (Nat.le_of_ble_eq_true rfl) (fun r3 m4 q5 => ?_)
  have h := h r3 m4 q5
  refine x_if_ne (pc := 8) (tgt := 13) dX6_diameter_8 (by decide) (fun c6 => ?_) (fun c6 => ?_)
  · have h := h.1 c6
    refine x_aload_n (pc := 13) dX6_diameter_13 0 rfl rfl ?_
    refine x_get (pc := 14) 0 1 dX6_diameter_14 (mK hG (by decide)) (mc_0 hG _) rfl inX6 (by decide) tb_193 rfl rfl ?_
    obtain ⟨Q7, hc8, h⟩ := h
    refine x_callVV (pc := 17) 16 hc8 ok_X5_measure dX6_diameter_17 tb_281 ⟨⟨rfl, rfl⟩, ⟨by decide, by decide⟩, by decide, by decide⟩ (Sv_K0 ⟨Or.inl rfl, hG⟩) (Sv_c0 ⟨Or.inl rfl, hG⟩ _) rfl (As := []) rfl rfl (Nat.le_of_ble_eq_true rfl) (fun m10 q11 => ?_)
    have h := h m10 q11
    refine x_aload_n (pc := 20) dX6_diameter_20 0 rfl rfl ?_
    refine x_get (pc := 21) 0 1 dX6_diameter_21 (mK hG (by decide)) (mc_0 hG _) rfl inX6 (by decide) tb_193 rfl rfl ?_
    refine x_iload_n (pc := 24) dX6_diameter_24 1 rfl rfl ?_
    obtain ⟨Q12, hc13, h⟩ := h
    refine x_callVI (pc := 25) 16 hc13 ok_X5_widthAround dX6_diameter_25 tb_390 ⟨⟨rfl, rfl⟩, ⟨by decide, by decide⟩, by decide, by decide⟩ (Sv_K0 ⟨Or.inl rfl, hG⟩) (Sv_c0 ⟨Or.inl rfl, hG⟩ _) rfl (As := [.int a1]) rfl rfl (Nat.le_of_ble_eq_true rfl) (fun r14 m15 q16 => ?_)
    have h := h r14 m15 q16
    exact x_endI (pc := 28) dX6_diameter_28 rfl h
  · have h := h.2 c6
    refine x_iconst (pc := 11) (v := (-1)) dX6_diameter_11 (by decide) ?_
    exact x_endI (pc := 12) dX6_diameter_12 rfl h
set_option maxRecDepth 100000 in
set_option maxHeartbeats 4000000 in
theorem t_X6_diameterEnd_0 {l : Launch} {G : Gx} {P : Int32 → Mem → Prop} (hG : Mn G) (a1 : Int32) (a2 : Int32) (mem : Mem)
    (h : ∃ Q1 : Int32 → Mem → Prop, CtI l M_X1_hasVertex G [.ref (gA G 1), .int a1] mem Q1 ∧ ∀ (r3 : Int32) (m4 : Mem), Q1 r3 m4 → ((¬ r3 = 0 → ((a2 = 0 → (∃ Q8 : Mem → Prop, CtV l M_X5_measure G [.ref (gA G 16)] m4 Q8 ∧ ∀ m11 : Mem, Q8 m11 → (∃ Q13 : Int32 → Mem → Prop, CtI l M_X5_firstWideEnd G [.ref (gA G 16), .int a1] m11 Q13 ∧ ∀ (r15 : Int32) (m16 : Mem), Q13 r15 m16 → ((¬ a2 = 0 → (∃ Q19 : Int32 → Mem → Prop, CtI l M_X5_firstFarthest G [.ref (gA G 16), .int r15] m16 Q19 ∧ ∀ (r21 : Int32) (m22 : Mem), Q19 r21 m22 → (P r21 m22))) ∧ (a2 = 0 → (P r15 m16)))))) ∧ (¬ a2 = 0 → ((a2 = 1 → (∃ Q25 : Mem → Prop, CtV l M_X5_measure G [.ref (gA G 16)] m4 Q25 ∧ ∀ m28 : Mem, Q25 m28 → (∃ Q30 : Int32 → Mem → Prop, CtI l M_X5_firstWideEnd G [.ref (gA G 16), .int a1] m28 Q30 ∧ ∀ (r32 : Int32) (m33 : Mem), Q30 r32 m33 → ((¬ a2 = 0 → (∃ Q36 : Int32 → Mem → Prop, CtI l M_X5_firstFarthest G [.ref (gA G 16), .int r32] m33 Q36 ∧ ∀ (r38 : Int32) (m39 : Mem), Q36 r38 m39 → (P r38 m39))) ∧ (a2 = 0 → (P r32 m33)))))) ∧ (¬ a2 = 1 → (P (-2) m4)))))) ∧ (r3 = 0 → (P (-1) m4)))) :
    XI l M_X6_diameterEnd G P mem 0 [(0, .ref (gA G 0)), (1, .int a1), (2, .int a2)] [] := by
  refine x_aload_n (pc := 0) dX6_diameterEnd_0 0 rfl rfl ?_
  refine x_get (pc := 1) 0 0 dX6_diameterEnd_1 (mK hG (by decide)) (mc_0 hG _) rfl inX6 (by decide) tb_192 rfl rfl ?_
  refine x_iload_n (pc := 4) dX6_diameterEnd_4 1 rfl rfl ?_
  obtain ⟨Q1, hc2, h⟩ := h
  refine x_callVI (pc := 5) 1 hc2 ok_X1_hasVertex dX6_diameterEnd_5 tb_238 ⟨⟨rfl, rfl⟩, ⟨by decide, by decide⟩, by decide, by decide⟩ (Fo_K0 (Fo_of hG (by decide))) (Fo_c0 (Fo_of hG (by decide)) _) rfl (As := [.int a1]) rfl rfl (Nat.le_of_ble_eq_true rfl) (fun r3 m4 q5 => ?_)
  have h := h r3 m4 q5
  refine x_if_ne (pc := 8) (tgt := 13) dX6_diameterEnd_8 (by decide) (fun c6 => ?_) (fun c6 => ?_)
  · have h := h.1 c6
    refine x_iload_n (pc := 13) dX6_diameterEnd_13 2 rfl rfl ?_
    refine x_if_eq (pc := 14) (tgt := 25) dX6_diameterEnd_14 (by decide) (fun c7 => ?_) (fun c7 => ?_)
    · have h := h.1 c7
      refine x_aload_n (pc := 25) dX6_diameterEnd_25 0 rfl rfl ?_
      refine x_get (pc := 26) 0 1 dX6_diameterEnd_26 (mK hG (by decide)) (mc_0 hG _) rfl inX6 (by decide) tb_193 rfl rfl ?_
      obtain ⟨Q8, hc9, h⟩ := h
      refine x_callVV (pc := 29) 16 hc9 ok_X5_measure dX6_diameterEnd_29 tb_281 ⟨⟨rfl, rfl⟩, ⟨by decide, by decide⟩, by decide, by decide⟩ (Sv_K0 ⟨Or.inl rfl, hG⟩) (Sv_c0 ⟨Or.inl rfl, hG⟩ _) rfl (As := []) rfl rfl (Nat.le_of_ble_eq_true rfl) (fun m11 q12 => ?_)
      have h := h m11 q12
      refine x_aload_n (pc := 32) dX6_diameterEnd_32 0 rfl rfl ?_
      refine x_get (pc := 33) 0 1 dX6_diameterEnd_33 (mK hG (by decide)) (mc_0 hG _) rfl inX6 (by decide) tb_193 rfl rfl ?_
      refine x_iload_n (pc := 36) dX6_diameterEnd_36 1 rfl rfl ?_
      obtain ⟨Q13, hc14, h⟩ := h
      refine x_callVI (pc := 37) 16 hc14 ok_X5_firstWideEnd dX6_diameterEnd_37 tb_403 ⟨⟨rfl, rfl⟩, ⟨by decide, by decide⟩, by decide, by decide⟩ (Sv_K0 ⟨Or.inl rfl, hG⟩) (Sv_c0 ⟨Or.inl rfl, hG⟩ _) rfl (As := [.int a1]) rfl rfl (Nat.le_of_ble_eq_true rfl) (fun r15 m16 q17 => ?_)
      have h := h r15 m16 q17
      refine x_istore_n (pc := 40) dX6_diameterEnd_40 rfl (by decide) rfl ?_
      refine x_iload_n (pc := 41) dX6_diameterEnd_41 3 rfl rfl ?_
      refine x_if_ne (pc := 42) (tgt := 49) dX6_diameterEnd_42 (by decide) (fun c18 => ?_) (fun c18 => ?_)
      · have h := h.1 c18
        refine x_aload_n (pc := 49) dX6_diameterEnd_49 1 rfl rfl ?_
        refine x_get (pc := 50) 0 1 dX6_diameterEnd_50 (mK hG (by decide)) (mc_0 hG _) rfl inX6 (by decide) tb_193 rfl rfl ?_
        refine x_iload_n (pc := 53) dX6_diameterEnd_53 0 rfl rfl ?_
        obtain ⟨Q19, hc20, h⟩ := h
        refine x_callVI (pc := 54) 16 hc20 ok_X5_firstFarthest dX6_diameterEnd_54 tb_404 ⟨⟨rfl, rfl⟩, ⟨by decide, by decide⟩, by decide, by decide⟩ (Sv_K0 ⟨Or.inl rfl, hG⟩) (Sv_c0 ⟨Or.inl rfl, hG⟩ _) rfl (As := [.int r15]) rfl rfl (Nat.le_of_ble_eq_true rfl) (fun r21 m22 q23 => ?_)
        have h := h r21 m22 q23
        exact x_endI (pc := 57) dX6_diameterEnd_57 rfl h
      · have h := h.2 c18
        refine x_iload_n (pc := 45) dX6_diameterEnd_45 0 rfl rfl ?_
        refine x_goto (pc := 46) (tgt := 57) dX6_diameterEnd_46 (by decide) ?_
        exact x_endI (pc := 57) dX6_diameterEnd_57 rfl h
    · have h := h.2 c7
      refine x_iload_n (pc := 17) dX6_diameterEnd_17 2 rfl rfl ?_
      refine x_iconst (pc := 18) (v := 1) dX6_diameterEnd_18 (by decide) ?_
      refine x_icmp_eq (pc := 19) (tgt := 25) dX6_diameterEnd_19 (by decide) (fun c24 => ?_) (fun c24 => ?_)
      · have h := h.1 c24
        refine x_aload_n (pc := 25) dX6_diameterEnd_25 0 rfl rfl ?_
        refine x_get (pc := 26) 0 1 dX6_diameterEnd_26 (mK hG (by decide)) (mc_0 hG _) rfl inX6 (by decide) tb_193 rfl rfl ?_
        obtain ⟨Q25, hc26, h⟩ := h
        refine x_callVV (pc := 29) 16 hc26 ok_X5_measure dX6_diameterEnd_29 tb_281 ⟨⟨rfl, rfl⟩, ⟨by decide, by decide⟩, by decide, by decide⟩ (Sv_K0 ⟨Or.inl rfl, hG⟩) (Sv_c0 ⟨Or.inl rfl, hG⟩ _) rfl (As := []) rfl rfl (Nat.le_of_ble_eq_true rfl) (fun m28 q29 => ?_)
        have h := h m28 q29
        refine x_aload_n (pc := 32) dX6_diameterEnd_32 0 rfl rfl ?_
        refine x_get (pc := 33) 0 1 dX6_diameterEnd_33 (mK hG (by decide)) (mc_0 hG _) rfl inX6 (by decide) tb_193 rfl rfl ?_
        refine x_iload_n (pc := 36) dX6_diameterEnd_36 1 rfl rfl ?_
        obtain ⟨Q30, hc31, h⟩ := h
        refine x_callVI (pc := 37) 16 hc31 ok_X5_firstWideEnd dX6_diameterEnd_37 tb_403 ⟨⟨rfl, rfl⟩, ⟨by decide, by decide⟩, by decide, by decide⟩ (Sv_K0 ⟨Or.inl rfl, hG⟩) (Sv_c0 ⟨Or.inl rfl, hG⟩ _) rfl (As := [.int a1]) rfl rfl (Nat.le_of_ble_eq_true rfl) (fun r32 m33 q34 => ?_)
        have h := h r32 m33 q34
        refine x_istore_n (pc := 40) dX6_diameterEnd_40 rfl (by decide) rfl ?_
        refine x_iload_n (pc := 41) dX6_diameterEnd_41 3 rfl rfl ?_
        refine x_if_ne (pc := 42) (tgt := 49) dX6_diameterEnd_42 (by decide) (fun c35 => ?_) (fun c35 => ?_)
        · have h := h.1 c35
          refine x_aload_n (pc := 49) dX6_diameterEnd_49 1 rfl rfl ?_
          refine x_get (pc := 50) 0 1 dX6_diameterEnd_50 (mK hG (by decide)) (mc_0 hG _) rfl inX6 (by decide) tb_193 rfl rfl ?_
          refine x_iload_n (pc := 53) dX6_diameterEnd_53 0 rfl rfl ?_
          obtain ⟨Q36, hc37, h⟩ := h
          refine x_callVI (pc := 54) 16 hc37 ok_X5_firstFarthest dX6_diameterEnd_54 tb_404 ⟨⟨rfl, rfl⟩, ⟨by decide, by decide⟩, by decide, by decide⟩ (Sv_K0 ⟨Or.inl rfl, hG⟩) (Sv_c0 ⟨Or.inl rfl, hG⟩ _) rfl (As := [.int r32]) rfl rfl (Nat.le_of_ble_eq_true rfl) (fun r38 m39 q40 => ?_)
          have h := h r38 m39 q40
          exact x_endI (pc := 57) dX6_diameterEnd_57 rfl h
        · have h := h.2 c35
          refine x_iload_n (pc := 45) dX6_diameterEnd_45 0 rfl rfl ?_
          refine x_goto (pc := 46) (tgt := 57) dX6_diameterEnd_46 (by decide) ?_
          exact x_endI (pc := 57) dX6_diameterEnd_57 rfl h
      · have h := h.2 c24
        refine x_bipush (pc := 22) (v := (-2)) dX6_diameterEnd_22 (by decide) ?_
        exact x_endI (pc := 24) dX6_diameterEnd_24 rfl h
  · have h := h.2 c6
    refine x_iconst (pc := 11) (v := (-1)) dX6_diameterEnd_11 (by decide) ?_
    exact x_endI (pc := 12) dX6_diameterEnd_12 rfl h
set_option maxRecDepth 100000 in
set_option maxHeartbeats 4000000 in
theorem t_X6_centre_0 {l : Launch} {G : Gx} {P : Int32 → Mem → Prop} (hG : Mn G) (a1 : Int32) (mem : Mem)
    (h : ∃ Q1 : Int32 → Mem → Prop, CtI l M_X1_hasVertex G [.ref (gA G 1), .int a1] mem Q1 ∧ ∀ (r3 : Int32) (m4 : Mem), Q1 r3 m4 → ((¬ r3 = 0 → (∃ Q7 : Mem → Prop, CtV l M_X5_measure G [.ref (gA G 16)] m4 Q7 ∧ ∀ m10 : Mem, Q7 m10 → (∃ Q12 : Int32 → Mem → Prop, CtI l M_X5_middleOf G [.ref (gA G 16), .int a1] m10 Q12 ∧ ∀ (r14 : Int32) (m15 : Mem), Q12 r14 m15 → (P r14 m15)))) ∧ (r3 = 0 → (P (-1) m4)))) :
    XI l M_X6_centre G P mem 0 [(0, .ref (gA G 0)), (1, .int a1)] [] := by
  refine x_aload_n (pc := 0) dX6_centre_0 0 rfl rfl ?_
  refine x_get (pc := 1) 0 0 dX6_centre_1 (mK hG (by decide)) (mc_0 hG _) rfl inX6 (by decide) tb_192 rfl rfl ?_
  refine x_iload_n (pc := 4) dX6_centre_4 1 rfl rfl ?_
  obtain ⟨Q1, hc2, h⟩ := h
  refine x_callVI (pc := 5) 1 hc2 ok_X1_hasVertex dX6_centre_5 tb_238 ⟨⟨rfl, rfl⟩, ⟨by decide, by decide⟩, by decide, by decide⟩ (Fo_K0 (Fo_of hG (by decide))) (Fo_c0 (Fo_of hG (by decide)) _) rfl (As := [.int a1]) rfl rfl (Nat.le_of_ble_eq_true rfl) (fun r3 m4 q5 => ?_)
  have h := h r3 m4 q5
  refine x_if_ne (pc := 8) (tgt := 13) dX6_centre_8 (by decide) (fun c6 => ?_) (fun c6 => ?_)
  · have h := h.1 c6
    refine x_aload_n (pc := 13) dX6_centre_13 0 rfl rfl ?_
    refine x_get (pc := 14) 0 1 dX6_centre_14 (mK hG (by decide)) (mc_0 hG _) rfl inX6 (by decide) tb_193 rfl rfl ?_
    obtain ⟨Q7, hc8, h⟩ := h
    refine x_callVV (pc := 17) 16 hc8 ok_X5_measure dX6_centre_17 tb_281 ⟨⟨rfl, rfl⟩, ⟨by decide, by decide⟩, by decide, by decide⟩ (Sv_K0 ⟨Or.inl rfl, hG⟩) (Sv_c0 ⟨Or.inl rfl, hG⟩ _) rfl (As := []) rfl rfl (Nat.le_of_ble_eq_true rfl) (fun m10 q11 => ?_)
    have h := h m10 q11
    refine x_aload_n (pc := 20) dX6_centre_20 0 rfl rfl ?_
    refine x_get (pc := 21) 0 1 dX6_centre_21 (mK hG (by decide)) (mc_0 hG _) rfl inX6 (by decide) tb_193 rfl rfl ?_
    refine x_iload_n (pc := 24) dX6_centre_24 1 rfl rfl ?_
    obtain ⟨Q12, hc13, h⟩ := h
    refine x_callVI (pc := 25) 16 hc13 ok_X5_middleOf dX6_centre_25 tb_409 ⟨⟨rfl, rfl⟩, ⟨by decide, by decide⟩, by decide, by decide⟩ (Sv_K0 ⟨Or.inl rfl, hG⟩) (Sv_c0 ⟨Or.inl rfl, hG⟩ _) rfl (As := [.int a1]) rfl rfl (Nat.le_of_ble_eq_true rfl) (fun r14 m15 q16 => ?_)
    have h := h r14 m15 q16
    exact x_endI (pc := 28) dX6_centre_28 rfl h
  · have h := h.2 c6
    refine x_iconst (pc := 11) (v := (-1)) dX6_centre_11 (by decide) ?_
    exact x_endI (pc := 12) dX6_centre_12 rfl h
set_option maxRecDepth 100000 in
set_option maxHeartbeats 4000000 in
theorem t_X6_median_0 {l : Launch} {G : Gx} {P : Int32 → Mem → Prop} (hG : Mn G) (a1 : Int32) (mem : Mem)
    (h : ∃ Q1 : Int32 → Mem → Prop, CtI l M_X1_hasVertex G [.ref (gA G 1), .int a1] mem Q1 ∧ ∀ (r3 : Int32) (m4 : Mem), Q1 r3 m4 → ((¬ r3 = 0 → (∃ Q7 : Mem → Prop, CtV l M_X5_measure G [.ref (gA G 16)] m4 Q7 ∧ ∀ m10 : Mem, Q7 m10 → (∃ Q12 : Int32 → Mem → Prop, CtI l M_X5_cheapestOf G [.ref (gA G 16), .int a1] m10 Q12 ∧ ∀ (r14 : Int32) (m15 : Mem), Q12 r14 m15 → (P r14 m15)))) ∧ (r3 = 0 → (P (-1) m4)))) :
    XI l M_X6_median G P mem 0 [(0, .ref (gA G 0)), (1, .int a1)] [] := by
  refine x_aload_n (pc := 0) dX6_median_0 0 rfl rfl ?_
  refine x_get (pc := 1) 0 0 dX6_median_1 (mK hG (by decide)) (mc_0 hG _) rfl inX6 (by decide) tb_192 rfl rfl ?_
  refine x_iload_n (pc := 4) dX6_median_4 1 rfl rfl ?_
  obtain ⟨Q1, hc2, h⟩ := h
  refine x_callVI (pc := 5) 1 hc2 ok_X1_hasVertex dX6_median_5 tb_238 ⟨⟨rfl, rfl⟩, ⟨by decide, by decide⟩, by decide, by decide⟩ (Fo_K0 (Fo_of hG (by decide))) (Fo_c0 (Fo_of hG (by decide)) _) rfl (As := [.int a1]) rfl rfl (Nat.le_of_ble_eq_true rfl) (fun r3 m4 q5 => ?_)
  have h := h r3 m4 q5
  refine x_if_ne (pc := 8) (tgt := 13) dX6_median_8 (by decide) (fun c6 => ?_) (fun c6 => ?_)
  · have h := h.1 c6
    refine x_aload_n (pc := 13) dX6_median_13 0 rfl rfl ?_
    refine x_get (pc := 14) 0 1 dX6_median_14 (mK hG (by decide)) (mc_0 hG _) rfl inX6 (by decide) tb_193 rfl rfl ?_
    obtain ⟨Q7, hc8, h⟩ := h
    refine x_callVV (pc := 17) 16 hc8 ok_X5_measure dX6_median_17 tb_281 ⟨⟨rfl, rfl⟩, ⟨by decide, by decide⟩, by decide, by decide⟩ (Sv_K0 ⟨Or.inl rfl, hG⟩) (Sv_c0 ⟨Or.inl rfl, hG⟩ _) rfl (As := []) rfl rfl (Nat.le_of_ble_eq_true rfl) (fun m10 q11 => ?_)
    have h := h m10 q11
    refine x_aload_n (pc := 20) dX6_median_20 0 rfl rfl ?_
    refine x_get (pc := 21) 0 1 dX6_median_21 (mK hG (by decide)) (mc_0 hG _) rfl inX6 (by decide) tb_193 rfl rfl ?_
    refine x_iload_n (pc := 24) dX6_median_24 1 rfl rfl ?_
    obtain ⟨Q12, hc13, h⟩ := h
    refine x_callVI (pc := 25) 16 hc13 ok_X5_cheapestOf dX6_median_25 tb_418 ⟨⟨rfl, rfl⟩, ⟨by decide, by decide⟩, by decide, by decide⟩ (Sv_K0 ⟨Or.inl rfl, hG⟩) (Sv_c0 ⟨Or.inl rfl, hG⟩ _) rfl (As := [.int a1]) rfl rfl (Nat.le_of_ble_eq_true rfl) (fun r14 m15 q16 => ?_)
    have h := h r14 m15 q16
    exact x_endI (pc := 28) dX6_median_28 rfl h
  · have h := h.2 c6
    refine x_iconst (pc := 11) (v := (-1)) dX6_median_11 (by decide) ?_
    exact x_endI (pc := 12) dX6_median_12 rfl h
set_option maxRecDepth 100000 in
set_option maxHeartbeats 4000000 in
theorem t_X6_cost_0 {l : Launch} {G : Gx} {P : Int32 → Mem → Prop} (hG : Mn G) (a1 : Int32) (mem : Mem)
    (h : ∃ Q1 : Int32 → Mem → Prop, CtI l M_X1_hasVertex G [.ref (gA G 1), .int a1] mem Q1 ∧ ∀ (r3 : Int32) (m4 : Mem), Q1 r3 m4 → ((¬ r3 = 0 → (∃ Q7 : Mem → Prop, CtV l M_X5_measure G [.ref (gA G 16)] m4 Q7 ∧ ∀ m10 : Mem, Q7 m10 → (∃ Q12 : Int32 → Mem → Prop, CtI l M_X5_priceOf G [.ref (gA G 16), .int a1] m10 Q12 ∧ ∀ (r14 : Int32) (m15 : Mem), Q12 r14 m15 → (P r14 m15)))) ∧ (r3 = 0 → (P (-1) m4)))) :
    XI l M_X6_cost G P mem 0 [(0, .ref (gA G 0)), (1, .int a1)] [] := by
  refine x_aload_n (pc := 0) dX6_cost_0 0 rfl rfl ?_
  refine x_get (pc := 1) 0 0 dX6_cost_1 (mK hG (by decide)) (mc_0 hG _) rfl inX6 (by decide) tb_192 rfl rfl ?_
  refine x_iload_n (pc := 4) dX6_cost_4 1 rfl rfl ?_
  obtain ⟨Q1, hc2, h⟩ := h
  refine x_callVI (pc := 5) 1 hc2 ok_X1_hasVertex dX6_cost_5 tb_238 ⟨⟨rfl, rfl⟩, ⟨by decide, by decide⟩, by decide, by decide⟩ (Fo_K0 (Fo_of hG (by decide))) (Fo_c0 (Fo_of hG (by decide)) _) rfl (As := [.int a1]) rfl rfl (Nat.le_of_ble_eq_true rfl) (fun r3 m4 q5 => ?_)
  have h := h r3 m4 q5
  refine x_if_ne (pc := 8) (tgt := 13) dX6_cost_8 (by decide) (fun c6 => ?_) (fun c6 => ?_)
  · have h := h.1 c6
    refine x_aload_n (pc := 13) dX6_cost_13 0 rfl rfl ?_
    refine x_get (pc := 14) 0 1 dX6_cost_14 (mK hG (by decide)) (mc_0 hG _) rfl inX6 (by decide) tb_193 rfl rfl ?_
    obtain ⟨Q7, hc8, h⟩ := h
    refine x_callVV (pc := 17) 16 hc8 ok_X5_measure dX6_cost_17 tb_281 ⟨⟨rfl, rfl⟩, ⟨by decide, by decide⟩, by decide, by decide⟩ (Sv_K0 ⟨Or.inl rfl, hG⟩) (Sv_c0 ⟨Or.inl rfl, hG⟩ _) rfl (As := []) rfl rfl (Nat.le_of_ble_eq_true rfl) (fun m10 q11 => ?_)
    have h := h m10 q11
    refine x_aload_n (pc := 20) dX6_cost_20 0 rfl rfl ?_
    refine x_get (pc := 21) 0 1 dX6_cost_21 (mK hG (by decide)) (mc_0 hG _) rfl inX6 (by decide) tb_193 rfl rfl ?_
    refine x_iload_n (pc := 24) dX6_cost_24 1 rfl rfl ?_
    obtain ⟨Q12, hc13, h⟩ := h
    refine x_callVI (pc := 25) 16 hc13 ok_X5_priceOf dX6_cost_25 tb_431 ⟨⟨rfl, rfl⟩, ⟨by decide, by decide⟩, by decide, by decide⟩ (Sv_K0 ⟨Or.inl rfl, hG⟩) (Sv_c0 ⟨Or.inl rfl, hG⟩ _) rfl (As := [.int a1]) rfl rfl (Nat.le_of_ble_eq_true rfl) (fun r14 m15 q16 => ?_)
    have h := h r14 m15 q16
    exact x_endI (pc := 28) dX6_cost_28 rfl h
  · have h := h.2 c6
    refine x_iconst (pc := 11) (v := (-1)) dX6_cost_11 (by decide) ?_
    exact x_endI (pc := 12) dX6_cost_12 rfl h
set_option maxRecDepth 100000 in
set_option maxHeartbeats 4000000 in
theorem t_X6_meeting_0 {l : Launch} {G : Gx} {P : Int32 → Mem → Prop} (hG : Mn G) (a1 : Int32) (a2 : Int32) (a3 : Int32) (mem : Mem)
    (h : ∃ Q1 : Int32 → Mem → Prop, CtI l M_X1_hasVertices G [.ref (gA G 1), .int a1, .int a2] mem Q1 ∧ ∀ (r3 : Int32) (m4 : Mem), Q1 r3 m4 → ((r3 = 0 → (P (-1) m4)) ∧ (¬ r3 = 0 → (∃ Q7 : Int32 → Mem → Prop, CtI l M_X1_hasVertex G [.ref (gA G 1), .int a3] m4 Q7 ∧ ∀ (r9 : Int32) (m10 : Mem), Q7 r9 m10 → ((¬ r9 = 0 → (∃ Q13 : Mem → Prop, CtV l M_X5_measure G [.ref (gA G 16)] m10 Q13 ∧ ∀ m16 : Mem, Q13 m16 → (∃ Q18 : Int32 → Mem → Prop, CtI l M_X5_meetingOf G [.ref (gA G 16), .int a1, .int a2, .int a3] m16 Q18 ∧ ∀ (r20 : Int32) (m21 : Mem), Q18 r20 m21 → (P r20 m21)))) ∧ (r9 = 0 → (P (-1) m10))))))) :
    XI l M_X6_meeting G P mem 0 [(0, .ref (gA G 0)), (1, .int a1), (2, .int a2), (3, .int a3)] [] := by
  refine x_aload_n (pc := 0) dX6_meeting_0 0 rfl rfl ?_
  refine x_get (pc := 1) 0 0 dX6_meeting_1 (mK hG (by decide)) (mc_0 hG _) rfl inX6 (by decide) tb_192 rfl rfl ?_
  refine x_iload_n (pc := 4) dX6_meeting_4 1 rfl rfl ?_
  refine x_iload_n (pc := 5) dX6_meeting_5 2 rfl rfl ?_
  obtain ⟨Q1, hc2, h⟩ := h
  refine x_callVI (pc := 6) 1 hc2 ok_X1_hasVertices dX6_meeting_6 tb_263 ⟨⟨rfl, rfl⟩, ⟨by decide, by decide⟩, by decide, by decide⟩ (Fo_K0 (Fo_of hG (by decide))) (Fo_c0 (Fo_of hG (by decide)) _) rfl (As := [.int a1, .int a2]) rfl rfl (Nat.le_of_ble_eq_true rfl) (fun r3 m4 q5 => ?_)
  have h := h r3 m4 q5
  refine x_if_eq (pc := 9) (tgt := 23) dX6_meeting_9 (by decide) (fun c6 => ?_) (fun c6 => ?_)
  · have h := h.1 c6
    refine x_iconst (pc := 23) (v := (-1)) dX6_meeting_23 (by decide) ?_
    exact x_endI (pc := 24) dX6_meeting_24 rfl h
  · have h := h.2 c6
    refine x_aload_n (pc := 12) dX6_meeting_12 0 rfl rfl ?_
    refine x_get (pc := 13) 0 0 dX6_meeting_13 (mK hG (by decide)) (mc_0 hG _) rfl inX6 (by decide) tb_192 rfl rfl ?_
    refine x_iload_n (pc := 16) dX6_meeting_16 3 rfl rfl ?_
    obtain ⟨Q7, hc8, h⟩ := h
    refine x_callVI (pc := 17) 1 hc8 ok_X1_hasVertex dX6_meeting_17 tb_238 ⟨⟨rfl, rfl⟩, ⟨by decide, by decide⟩, by decide, by decide⟩ (Fo_K0 (Fo_of hG (by decide))) (Fo_c0 (Fo_of hG (by decide)) _) rfl (As := [.int a3]) rfl rfl (Nat.le_of_ble_eq_true rfl) (fun r9 m10 q11 => ?_)
    have h := h r9 m10 q11
    refine x_if_ne (pc := 20) (tgt := 25) dX6_meeting_20 (by decide) (fun c12 => ?_) (fun c12 => ?_)
    · have h := h.1 c12
      refine x_aload_n (pc := 25) dX6_meeting_25 0 rfl rfl ?_
      refine x_get (pc := 26) 0 1 dX6_meeting_26 (mK hG (by decide)) (mc_0 hG _) rfl inX6 (by decide) tb_193 rfl rfl ?_
      obtain ⟨Q13, hc14, h⟩ := h
      refine x_callVV (pc := 29) 16 hc14 ok_X5_measure dX6_meeting_29 tb_281 ⟨⟨rfl, rfl⟩, ⟨by decide, by decide⟩, by decide, by decide⟩ (Sv_K0 ⟨Or.inl rfl, hG⟩) (Sv_c0 ⟨Or.inl rfl, hG⟩ _) rfl (As := []) rfl rfl (Nat.le_of_ble_eq_true rfl) (fun m16 q17 => ?_)
      have h := h m16 q17
      refine x_aload_n (pc := 32) dX6_meeting_32 0 rfl rfl ?_
      refine x_get (pc := 33) 0 1 dX6_meeting_33 (mK hG (by decide)) (mc_0 hG _) rfl inX6 (by decide) tb_193 rfl rfl ?_
      refine x_iload_n (pc := 36) dX6_meeting_36 1 rfl rfl ?_
      refine x_iload_n (pc := 37) dX6_meeting_37 2 rfl rfl ?_
      refine x_iload_n (pc := 38) dX6_meeting_38 3 rfl rfl ?_
      obtain ⟨Q18, hc19, h⟩ := h
      refine x_callVI (pc := 39) 16 hc19 ok_X5_meetingOf dX6_meeting_39 tb_436 ⟨⟨rfl, rfl⟩, ⟨by decide, by decide⟩, by decide, by decide⟩ (Sv_K0 ⟨Or.inl rfl, hG⟩) (Sv_c0 ⟨Or.inl rfl, hG⟩ _) rfl (As := [.int a1, .int a2, .int a3]) rfl rfl (Nat.le_of_ble_eq_true rfl) (fun r20 m21 q22 => ?_)
      have h := h r20 m21 q22
      exact x_endI (pc := 42) dX6_meeting_42 rfl h
    · have h := h.2 c12
      refine x_iconst (pc := 23) (v := (-1)) dX6_meeting_23 (by decide) ?_
      exact x_endI (pc := 24) dX6_meeting_24 rfl h
set_option maxRecDepth 100000 in
set_option maxHeartbeats 4000000 in
theorem t_X6_rounds_0 {l : Launch} {G : Gx} {P : Int32 → Mem → Prop} (hG : Mn G) (a1 : Int32) (mem : Mem)
    (h : ∃ Q1 : Int32 → Mem → Prop, CtI l M_X1_hasVertex G [.ref (gA G 1), .int a1] mem Q1 ∧ ∀ (r3 : Int32) (m4 : Mem), Q1 r3 m4 → ((¬ r3 = 0 → (∃ Q7 : Mem → Prop, CtV l M_X0_contract G [.ref (gA G 59), .ref (gA G 1), .int a1] m4 Q7 ∧ ∀ m10 : Mem, Q7 m10 → (∃ Q12 : Int32 → Mem → Prop, CtI l M_X0_roundCount G [.ref (gA G 59)] m10 Q12 ∧ ∀ (r14 : Int32) (m15 : Mem), Q12 r14 m15 → (P r14 m15)))) ∧ (r3 = 0 → (P (-1) m4)))) :
    XI l M_X6_rounds G P mem 0 [(0, .ref (gA G 0)), (1, .int a1)] [] := by
  refine x_aload_n (pc := 0) dX6_rounds_0 0 rfl rfl ?_
  refine x_get (pc := 1) 0 0 dX6_rounds_1 (mK hG (by decide)) (mc_0 hG _) rfl inX6 (by decide) tb_192 rfl rfl ?_
  refine x_iload_n (pc := 4) dX6_rounds_4 1 rfl rfl ?_
  obtain ⟨Q1, hc2, h⟩ := h
  refine x_callVI (pc := 5) 1 hc2 ok_X1_hasVertex dX6_rounds_5 tb_238 ⟨⟨rfl, rfl⟩, ⟨by decide, by decide⟩, by decide, by decide⟩ (Fo_K0 (Fo_of hG (by decide))) (Fo_c0 (Fo_of hG (by decide)) _) rfl (As := [.int a1]) rfl rfl (Nat.le_of_ble_eq_true rfl) (fun r3 m4 q5 => ?_)
  have h := h r3 m4 q5
  refine x_if_ne (pc := 8) (tgt := 13) dX6_rounds_8 (by decide) (fun c6 => ?_) (fun c6 => ?_)
  · have h := h.1 c6
    refine x_aload_n (pc := 13) dX6_rounds_13 0 rfl rfl ?_
    refine x_get (pc := 14) 0 4 dX6_rounds_14 (mK hG (by decide)) (mc_0 hG _) rfl inX6 (by decide) tb_196 rfl rfl ?_
    refine x_aload_n (pc := 17) dX6_rounds_17 0 rfl rfl ?_
    refine x_get (pc := 18) 0 0 dX6_rounds_18 (mK hG (by decide)) (mc_0 hG _) rfl inX6 (by decide) tb_192 rfl rfl ?_
    refine x_iload_n (pc := 21) dX6_rounds_21 1 rfl rfl ?_
    obtain ⟨Q7, hc8, h⟩ := h
    refine x_callVV (pc := 22) 59 hc8 ok_X0_contract dX6_rounds_22 tb_448 ⟨⟨rfl, rfl⟩, ⟨by decide, by decide⟩, by decide, by decide⟩ (mK hG (by decide)) (mc_59 hG _) rfl (As := [.ref (gA G 1), .int a1]) rfl rfl (Nat.le_of_ble_eq_true rfl) (fun m10 q11 => ?_)
    have h := h m10 q11
    refine x_aload_n (pc := 25) dX6_rounds_25 0 rfl rfl ?_
    refine x_get (pc := 26) 0 4 dX6_rounds_26 (mK hG (by decide)) (mc_0 hG _) rfl inX6 (by decide) tb_196 rfl rfl ?_
    obtain ⟨Q12, hc13, h⟩ := h
    refine x_callVI (pc := 29) 59 hc13 ok_X0_roundCount dX6_rounds_29 tb_503 ⟨⟨rfl, rfl⟩, ⟨by decide, by decide⟩, by decide, by decide⟩ (mK hG (by decide)) (mc_59 hG _) rfl (As := []) rfl rfl (Nat.le_of_ble_eq_true rfl) (fun r14 m15 q16 => ?_)
    have h := h r14 m15 q16
    exact x_endI (pc := 32) dX6_rounds_32 rfl h
  · have h := h.2 c6
    refine x_iconst (pc := 11) (v := (-1)) dX6_rounds_11 (by decide) ?_
    exact x_endI (pc := 12) dX6_rounds_12 rfl h
set_option maxRecDepth 100000 in
set_option maxHeartbeats 4000000 in
theorem t_X6_removalRound_0 {l : Launch} {G : Gx} {P : Int32 → Mem → Prop} (hG : Mn G) (a1 : Int32) (mem : Mem)
    (h : ∃ Q1 : Int32 → Mem → Prop, CtI l M_X1_hasVertex G [.ref (gA G 1), .int a1] mem Q1 ∧ ∀ (r3 : Int32) (m4 : Mem), Q1 r3 m4 → ((¬ r3 = 0 → (∃ Q7 : Mem → Prop, CtV l M_X0_contract G [.ref (gA G 59), .ref (gA G 1), .int a1] m4 Q7 ∧ ∀ m10 : Mem, Q7 m10 → (∃ Q12 : Int32 → Mem → Prop, CtI l M_X0_roundOf G [.ref (gA G 59), .int a1] m10 Q12 ∧ ∀ (r14 : Int32) (m15 : Mem), Q12 r14 m15 → (P r14 m15)))) ∧ (r3 = 0 → (P (-1) m4)))) :
    XI l M_X6_removalRound G P mem 0 [(0, .ref (gA G 0)), (1, .int a1)] [] := by
  refine x_aload_n (pc := 0) dX6_removalRound_0 0 rfl rfl ?_
  refine x_get (pc := 1) 0 0 dX6_removalRound_1 (mK hG (by decide)) (mc_0 hG _) rfl inX6 (by decide) tb_192 rfl rfl ?_
  refine x_iload_n (pc := 4) dX6_removalRound_4 1 rfl rfl ?_
  obtain ⟨Q1, hc2, h⟩ := h
  refine x_callVI (pc := 5) 1 hc2 ok_X1_hasVertex dX6_removalRound_5 tb_238 ⟨⟨rfl, rfl⟩, ⟨by decide, by decide⟩, by decide, by decide⟩ (Fo_K0 (Fo_of hG (by decide))) (Fo_c0 (Fo_of hG (by decide)) _) rfl (As := [.int a1]) rfl rfl (Nat.le_of_ble_eq_true rfl) (fun r3 m4 q5 => ?_)
  have h := h r3 m4 q5
  refine x_if_ne (pc := 8) (tgt := 13) dX6_removalRound_8 (by decide) (fun c6 => ?_) (fun c6 => ?_)
  · have h := h.1 c6
    refine x_aload_n (pc := 13) dX6_removalRound_13 0 rfl rfl ?_
    refine x_get (pc := 14) 0 4 dX6_removalRound_14 (mK hG (by decide)) (mc_0 hG _) rfl inX6 (by decide) tb_196 rfl rfl ?_
    refine x_aload_n (pc := 17) dX6_removalRound_17 0 rfl rfl ?_
    refine x_get (pc := 18) 0 0 dX6_removalRound_18 (mK hG (by decide)) (mc_0 hG _) rfl inX6 (by decide) tb_192 rfl rfl ?_
    refine x_iload_n (pc := 21) dX6_removalRound_21 1 rfl rfl ?_
    obtain ⟨Q7, hc8, h⟩ := h
    refine x_callVV (pc := 22) 59 hc8 ok_X0_contract dX6_removalRound_22 tb_448 ⟨⟨rfl, rfl⟩, ⟨by decide, by decide⟩, by decide, by decide⟩ (mK hG (by decide)) (mc_59 hG _) rfl (As := [.ref (gA G 1), .int a1]) rfl rfl (Nat.le_of_ble_eq_true rfl) (fun m10 q11 => ?_)
    have h := h m10 q11
    refine x_aload_n (pc := 25) dX6_removalRound_25 0 rfl rfl ?_
    refine x_get (pc := 26) 0 4 dX6_removalRound_26 (mK hG (by decide)) (mc_0 hG _) rfl inX6 (by decide) tb_196 rfl rfl ?_
    refine x_iload_n (pc := 29) dX6_removalRound_29 1 rfl rfl ?_
    obtain ⟨Q12, hc13, h⟩ := h
    refine x_callVI (pc := 30) 59 hc13 ok_X0_roundOf dX6_removalRound_30 tb_511 ⟨⟨rfl, rfl⟩, ⟨by decide, by decide⟩, by decide, by decide⟩ (mK hG (by decide)) (mc_59 hG _) rfl (As := [.int a1]) rfl rfl (Nat.le_of_ble_eq_true rfl) (fun r14 m15 q16 => ?_)
    have h := h r14 m15 q16
    exact x_endI (pc := 33) dX6_removalRound_33 rfl h
  · have h := h.2 c6
    refine x_iconst (pc := 11) (v := (-1)) dX6_removalRound_11 (by decide) ?_
    exact x_endI (pc := 12) dX6_removalRound_12 rfl h
set_option maxRecDepth 100000 in
set_option maxHeartbeats 4000000 in
theorem t_X6_survivor_0 {l : Launch} {G : Gx} {P : Int32 → Mem → Prop} (hG : Mn G) (a1 : Int32) (mem : Mem)
    (h : ∃ Q1 : Int32 → Mem → Prop, CtI l M_X1_hasVertex G [.ref (gA G 1), .int a1] mem Q1 ∧ ∀ (r3 : Int32) (m4 : Mem), Q1 r3 m4 → ((¬ r3 = 0 → (∃ Q7 : Mem → Prop, CtV l M_X0_contract G [.ref (gA G 59), .ref (gA G 1), .int a1] m4 Q7 ∧ ∀ m10 : Mem, Q7 m10 → (∃ Q12 : Int32 → Mem → Prop, CtI l M_X0_lastVertex G [.ref (gA G 59)] m10 Q12 ∧ ∀ (r14 : Int32) (m15 : Mem), Q12 r14 m15 → (P r14 m15)))) ∧ (r3 = 0 → (P (-1) m4)))) :
    XI l M_X6_survivor G P mem 0 [(0, .ref (gA G 0)), (1, .int a1)] [] := by
  refine x_aload_n (pc := 0) dX6_survivor_0 0 rfl rfl ?_
  refine x_get (pc := 1) 0 0 dX6_survivor_1 (mK hG (by decide)) (mc_0 hG _) rfl inX6 (by decide) tb_192 rfl rfl ?_
  refine x_iload_n (pc := 4) dX6_survivor_4 1 rfl rfl ?_
  obtain ⟨Q1, hc2, h⟩ := h
  refine x_callVI (pc := 5) 1 hc2 ok_X1_hasVertex dX6_survivor_5 tb_238 ⟨⟨rfl, rfl⟩, ⟨by decide, by decide⟩, by decide, by decide⟩ (Fo_K0 (Fo_of hG (by decide))) (Fo_c0 (Fo_of hG (by decide)) _) rfl (As := [.int a1]) rfl rfl (Nat.le_of_ble_eq_true rfl) (fun r3 m4 q5 => ?_)
  have h := h r3 m4 q5
  refine x_if_ne (pc := 8) (tgt := 13) dX6_survivor_8 (by decide) (fun c6 => ?_) (fun c6 => ?_)
  · have h := h.1 c6
    refine x_aload_n (pc := 13) dX6_survivor_13 0 rfl rfl ?_
    refine x_get (pc := 14) 0 4 dX6_survivor_14 (mK hG (by decide)) (mc_0 hG _) rfl inX6 (by decide) tb_196 rfl rfl ?_
    refine x_aload_n (pc := 17) dX6_survivor_17 0 rfl rfl ?_
    refine x_get (pc := 18) 0 0 dX6_survivor_18 (mK hG (by decide)) (mc_0 hG _) rfl inX6 (by decide) tb_192 rfl rfl ?_
    refine x_iload_n (pc := 21) dX6_survivor_21 1 rfl rfl ?_
    obtain ⟨Q7, hc8, h⟩ := h
    refine x_callVV (pc := 22) 59 hc8 ok_X0_contract dX6_survivor_22 tb_448 ⟨⟨rfl, rfl⟩, ⟨by decide, by decide⟩, by decide, by decide⟩ (mK hG (by decide)) (mc_59 hG _) rfl (As := [.ref (gA G 1), .int a1]) rfl rfl (Nat.le_of_ble_eq_true rfl) (fun m10 q11 => ?_)
    have h := h m10 q11
    refine x_aload_n (pc := 25) dX6_survivor_25 0 rfl rfl ?_
    refine x_get (pc := 26) 0 4 dX6_survivor_26 (mK hG (by decide)) (mc_0 hG _) rfl inX6 (by decide) tb_196 rfl rfl ?_
    obtain ⟨Q12, hc13, h⟩ := h
    refine x_callVI (pc := 29) 59 hc13 ok_X0_lastVertex dX6_survivor_29 tb_519 ⟨⟨rfl, rfl⟩, ⟨by decide, by decide⟩, by decide, by decide⟩ (mK hG (by decide)) (mc_59 hG _) rfl (As := []) rfl rfl (Nat.le_of_ble_eq_true rfl) (fun r14 m15 q16 => ?_)
    have h := h r14 m15 q16
    exact x_endI (pc := 32) dX6_survivor_32 rfl h
  · have h := h.2 c6
    refine x_iconst (pc := 11) (v := (-1)) dX6_survivor_11 (by decide) ?_
    exact x_endI (pc := 12) dX6_survivor_12 rfl h
set_option maxRecDepth 100000 in
set_option maxHeartbeats 4000000 in
theorem t_X6_balancedCut_0 {l : Launch} {G : Gx} {P : Int32 → Mem → Prop} (hG : Mn G) (a1 : Int32) (mem : Mem)
    (h : ∃ Q1 : Int32 → Mem → Prop, CtI l M_X1_hasVertex G [.ref (gA G 1), .int a1] mem Q1 ∧ ∀ (r3 : Int32) (m4 : Mem), Q1 r3 m4 → ((¬ r3 = 0 → (∃ Q7 : Mem → Prop, CtV l M_X5_measure G [.ref (gA G 16)] m4 Q7 ∧ ∀ m10 : Mem, Q7 m10 → (∃ Q12 : Int32 → Mem → Prop, CtI l M_X5_evenestEdge G [.ref (gA G 16), .int a1] m10 Q12 ∧ ∀ (r14 : Int32) (m15 : Mem), Q12 r14 m15 → (P r14 m15)))) ∧ (r3 = 0 → (P (-1) m4)))) :
    XI l M_X6_balancedCut G P mem 0 [(0, .ref (gA G 0)), (1, .int a1)] [] := by
  refine x_aload_n (pc := 0) dX6_balancedCut_0 0 rfl rfl ?_
  refine x_get (pc := 1) 0 0 dX6_balancedCut_1 (mK hG (by decide)) (mc_0 hG _) rfl inX6 (by decide) tb_192 rfl rfl ?_
  refine x_iload_n (pc := 4) dX6_balancedCut_4 1 rfl rfl ?_
  obtain ⟨Q1, hc2, h⟩ := h
  refine x_callVI (pc := 5) 1 hc2 ok_X1_hasVertex dX6_balancedCut_5 tb_238 ⟨⟨rfl, rfl⟩, ⟨by decide, by decide⟩, by decide, by decide⟩ (Fo_K0 (Fo_of hG (by decide))) (Fo_c0 (Fo_of hG (by decide)) _) rfl (As := [.int a1]) rfl rfl (Nat.le_of_ble_eq_true rfl) (fun r3 m4 q5 => ?_)
  have h := h r3 m4 q5
  refine x_if_ne (pc := 8) (tgt := 13) dX6_balancedCut_8 (by decide) (fun c6 => ?_) (fun c6 => ?_)
  · have h := h.1 c6
    refine x_aload_n (pc := 13) dX6_balancedCut_13 0 rfl rfl ?_
    refine x_get (pc := 14) 0 1 dX6_balancedCut_14 (mK hG (by decide)) (mc_0 hG _) rfl inX6 (by decide) tb_193 rfl rfl ?_
    obtain ⟨Q7, hc8, h⟩ := h
    refine x_callVV (pc := 17) 16 hc8 ok_X5_measure dX6_balancedCut_17 tb_281 ⟨⟨rfl, rfl⟩, ⟨by decide, by decide⟩, by decide, by decide⟩ (Sv_K0 ⟨Or.inl rfl, hG⟩) (Sv_c0 ⟨Or.inl rfl, hG⟩ _) rfl (As := []) rfl rfl (Nat.le_of_ble_eq_true rfl) (fun m10 q11 => ?_)
    have h := h m10 q11
    refine x_aload_n (pc := 20) dX6_balancedCut_20 0 rfl rfl ?_
    refine x_get (pc := 21) 0 1 dX6_balancedCut_21 (mK hG (by decide)) (mc_0 hG _) rfl inX6 (by decide) tb_193 rfl rfl ?_
    refine x_iload_n (pc := 24) dX6_balancedCut_24 1 rfl rfl ?_
    obtain ⟨Q12, hc13, h⟩ := h
    refine x_callVI (pc := 25) 16 hc13 ok_X5_evenestEdge dX6_balancedCut_25 tb_527 ⟨⟨rfl, rfl⟩, ⟨by decide, by decide⟩, by decide, by decide⟩ (Sv_K0 ⟨Or.inl rfl, hG⟩) (Sv_c0 ⟨Or.inl rfl, hG⟩ _) rfl (As := [.int a1]) rfl rfl (Nat.le_of_ble_eq_true rfl) (fun r14 m15 q16 => ?_)
    have h := h r14 m15 q16
    exact x_endI (pc := 28) dX6_balancedCut_28 rfl h
  · have h := h.2 c6
    refine x_iconst (pc := 11) (v := (-1)) dX6_balancedCut_11 (by decide) ?_
    exact x_endI (pc := 12) dX6_balancedCut_12 rfl h
set_option maxRecDepth 100000 in
set_option maxHeartbeats 4000000 in
theorem t_X6_expectedReach_0 {l : Launch} {G : Gx} {P : Int64 → Mem → Prop} (hG : Mn G) (a1 : Int32) (a2 : Int32) (mem : Mem)
    (h : ∃ Q1 : Int32 → Mem → Prop, CtI l M_X1_hasVertex G [.ref (gA G 1), .int a1] mem Q1 ∧ ∀ (r3 : Int32) (m4 : Mem), Q1 r3 m4 → ((¬ r3 = 0 → ((a2 < 0 → (P (-2) m4)) ∧ (¬ a2 < 0 → ((a2 ≤ 10 → (∃ Q9 : Mem → Prop, CtV l M_X5_measure G [.ref (gA G 16)] m4 Q9 ∧ ∀ m12 : Mem, Q9 m12 → (∃ Q14 : Int64 → Mem → Prop, CtL l M_X5_reachOf G [.ref (gA G 16), .int a1, .int (10 - a2)] m12 Q14 ∧ ∀ (r16 : Int64) (m17 : Mem), Q14 r16 m17 → (P r16 m17)))) ∧ (¬ a2 ≤ 10 → (P (-2) m4)))))) ∧ (r3 = 0 → (P (-1) m4)))) :
    XL l M_X6_expectedReach G P mem 0 [(0, .ref (gA G 0)), (1, .int a1), (2, .int a2)] [] := by
  refine x_aload_n (pc := 0) dX6_expectedReach_0 0 rfl rfl ?_
  refine x_get (pc := 1) 0 0 dX6_expectedReach_1 (mK hG (by decide)) (mc_0 hG _) rfl inX6 (by decide) tb_192 rfl rfl ?_
  refine x_iload_n (pc := 4) dX6_expectedReach_4 1 rfl rfl ?_
  obtain ⟨Q1, hc2, h⟩ := h
  refine x_callVI (pc := 5) 1 hc2 ok_X1_hasVertex dX6_expectedReach_5 tb_238 ⟨⟨rfl, rfl⟩, ⟨by decide, by decide⟩, by decide, by decide⟩ (Fo_K0 (Fo_of hG (by decide))) (Fo_c0 (Fo_of hG (by decide)) _) rfl (As := [.int a1]) rfl rfl (Nat.le_of_ble_eq_true rfl) (fun r3 m4 q5 => ?_)
  have h := h r3 m4 q5
  refine x_if_ne (pc := 8) (tgt := 15) dX6_expectedReach_8 (by decide) (fun c6 => ?_) (fun c6 => ?_)
  · have h := h.1 c6
    refine x_iload_n (pc := 15) dX6_expectedReach_15 2 rfl rfl ?_
    refine x_if_lt (pc := 16) (tgt := 25) dX6_expectedReach_16 (by decide) (fun c7 => ?_) (fun c7 => ?_)
    · have h := h.1 c7
      refine x_ldc2 (pc := 25) (v := (-2)) dX6_expectedReach_25 tb_541 ?_
      exact x_endL (pc := 28) dX6_expectedReach_28 rfl h
    · have h := h.2 c7
      refine x_iload_n (pc := 19) dX6_expectedReach_19 2 rfl rfl ?_
      refine x_bipush (pc := 20) (v := 10) dX6_expectedReach_20 (by decide) ?_
      refine x_icmp_le (pc := 22) (tgt := 29) dX6_expectedReach_22 (by decide) (fun c8 => ?_) (fun c8 => ?_)
      · have h := h.1 c8
        refine x_aload_n (pc := 29) dX6_expectedReach_29 0 rfl rfl ?_
        refine x_get (pc := 30) 0 1 dX6_expectedReach_30 (mK hG (by decide)) (mc_0 hG _) rfl inX6 (by decide) tb_193 rfl rfl ?_
        obtain ⟨Q9, hc10, h⟩ := h
        refine x_callVV (pc := 33) 16 hc10 ok_X5_measure dX6_expectedReach_33 tb_281 ⟨⟨rfl, rfl⟩, ⟨by decide, by decide⟩, by decide, by decide⟩ (Sv_K0 ⟨Or.inl rfl, hG⟩) (Sv_c0 ⟨Or.inl rfl, hG⟩ _) rfl (As := []) rfl rfl (Nat.le_of_ble_eq_true rfl) (fun m12 q13 => ?_)
        have h := h m12 q13
        refine x_aload_n (pc := 36) dX6_expectedReach_36 0 rfl rfl ?_
        refine x_get (pc := 37) 0 1 dX6_expectedReach_37 (mK hG (by decide)) (mc_0 hG _) rfl inX6 (by decide) tb_193 rfl rfl ?_
        refine x_iload_n (pc := 40) dX6_expectedReach_40 1 rfl rfl ?_
        refine x_bipush (pc := 41) (v := 10) dX6_expectedReach_41 (by decide) ?_
        refine x_iload_n (pc := 43) dX6_expectedReach_43 2 rfl rfl ?_
        refine x_isub (pc := 44) dX6_expectedReach_44 ?_
        obtain ⟨Q14, hc15, h⟩ := h
        refine x_callVL (pc := 45) 16 hc15 ok_X5_reachOf dX6_expectedReach_45 tb_542 ⟨⟨rfl, rfl⟩, ⟨by decide, by decide⟩, by decide, by decide⟩ (Sv_K0 ⟨Or.inl rfl, hG⟩) (Sv_c0 ⟨Or.inl rfl, hG⟩ _) rfl (As := [.int a1, .int (10 - a2)]) rfl rfl (Nat.le_of_ble_eq_true rfl) (fun r16 m17 q18 => ?_)
        have h := h r16 m17 q18
        exact x_endL (pc := 48) dX6_expectedReach_48 rfl h
      · have h := h.2 c8
        refine x_ldc2 (pc := 25) (v := (-2)) dX6_expectedReach_25 tb_541 ?_
        exact x_endL (pc := 28) dX6_expectedReach_28 rfl h
  · have h := h.2 c6
    refine x_ldc2 (pc := 11) (v := (-1)) dX6_expectedReach_11 tb_540 ?_
    exact x_endL (pc := 14) dX6_expectedReach_14 rfl h
set_option maxRecDepth 100000 in
set_option maxHeartbeats 4000000 in
theorem t_X6_observe_0 {l : Launch} {G : Gx} {P : Int32 → Mem → Prop} (hG : Mn G) (a1 : Int32) (a2 : Int32) (a3 : Int32) (mem : Mem)
    (h : (a1 < 0 → (P (-2) mem)) ∧ (¬ a1 < 0 → ((12 ≤ a1 → (P (-2) mem)) ∧ (¬ 12 ≤ a1 → ((a2 < 0 → (P (-2) mem)) ∧ (¬ a2 < 0 → ((a2 < 12 → ((a3 < 0 → (P (-2) mem)) ∧ (¬ a3 < 0 → ((a3 ≤ 999 → (∃ Q7 : Int32 → Mem → Prop, CtI l M_X3_store G [.ref (gA G 291), .int a1, .int a2, .int a3] mem Q7 ∧ ∀ (r9 : Int32) (m10 : Mem), Q7 r9 m10 → (P r9 m10))) ∧ (¬ a3 ≤ 999 → (P (-2) mem)))))) ∧ (¬ a2 < 12 → (P (-2) mem))))))))) :
    XI l M_X6_observe G P mem 0 [(0, .ref (gA G 0)), (1, .int a1), (2, .int a2), (3, .int a3)] [] := by
  refine x_iload_n (pc := 0) dX6_observe_0 1 rfl rfl ?_
  refine x_if_lt (pc := 1) (tgt := 20) dX6_observe_1 (by decide) (fun c1 => ?_) (fun c1 => ?_)
  · have h := h.1 c1
    refine x_bipush (pc := 20) (v := (-2)) dX6_observe_20 (by decide) ?_
    exact x_endI (pc := 22) dX6_observe_22 rfl h
  · have h := h.2 c1
    refine x_iload_n (pc := 4) dX6_observe_4 1 rfl rfl ?_
    refine x_bipush (pc := 5) (v := 12) dX6_observe_5 (by decide) ?_
    refine x_icmp_ge (pc := 7) (tgt := 20) dX6_observe_7 (by decide) (fun c2 => ?_) (fun c2 => ?_)
    · have h := h.1 c2
      refine x_bipush (pc := 20) (v := (-2)) dX6_observe_20 (by decide) ?_
      exact x_endI (pc := 22) dX6_observe_22 rfl h
    · have h := h.2 c2
      refine x_iload_n (pc := 10) dX6_observe_10 2 rfl rfl ?_
      refine x_if_lt (pc := 11) (tgt := 20) dX6_observe_11 (by decide) (fun c3 => ?_) (fun c3 => ?_)
      · have h := h.1 c3
        refine x_bipush (pc := 20) (v := (-2)) dX6_observe_20 (by decide) ?_
        exact x_endI (pc := 22) dX6_observe_22 rfl h
      · have h := h.2 c3
        refine x_iload_n (pc := 14) dX6_observe_14 2 rfl rfl ?_
        refine x_bipush (pc := 15) (v := 12) dX6_observe_15 (by decide) ?_
        refine x_icmp_lt (pc := 17) (tgt := 23) dX6_observe_17 (by decide) (fun c4 => ?_) (fun c4 => ?_)
        · have h := h.1 c4
          refine x_iload_n (pc := 23) dX6_observe_23 3 rfl rfl ?_
          refine x_if_lt (pc := 24) (tgt := 34) dX6_observe_24 (by decide) (fun c5 => ?_) (fun c5 => ?_)
          · have h := h.1 c5
            refine x_bipush (pc := 34) (v := (-2)) dX6_observe_34 (by decide) ?_
            exact x_endI (pc := 36) dX6_observe_36 rfl h
          · have h := h.2 c5
            refine x_iload_n (pc := 27) dX6_observe_27 3 rfl rfl ?_
            refine x_sipush (pc := 28) (v := 999) dX6_observe_28 (by decide) ?_
            refine x_icmp_le (pc := 31) (tgt := 37) dX6_observe_31 (by decide) (fun c6 => ?_) (fun c6 => ?_)
            · have h := h.1 c6
              refine x_aload_n (pc := 37) dX6_observe_37 0 rfl rfl ?_
              refine x_get (pc := 38) 0 7 dX6_observe_38 (mK hG (by decide)) (mc_0 hG _) rfl inX6 (by decide) tb_199 rfl rfl ?_
              refine x_iload_n (pc := 41) dX6_observe_41 1 rfl rfl ?_
              refine x_iload_n (pc := 42) dX6_observe_42 2 rfl rfl ?_
              refine x_iload_n (pc := 43) dX6_observe_43 3 rfl rfl ?_
              obtain ⟨Q7, hc8, h⟩ := h
              refine x_callVI (pc := 44) 291 hc8 ok_X3_store dX6_observe_44 tb_558 ⟨⟨rfl, rfl⟩, ⟨by decide, by decide⟩, by decide, by decide⟩ (mK hG (by decide)) (mc_291 hG _) rfl (As := [.int a1, .int a2, .int a3]) rfl rfl (Nat.le_of_ble_eq_true rfl) (fun r9 m10 q11 => ?_)
              have h := h r9 m10 q11
              exact x_endI (pc := 47) dX6_observe_47 rfl h
            · have h := h.2 c6
              refine x_bipush (pc := 34) (v := (-2)) dX6_observe_34 (by decide) ?_
              exact x_endI (pc := 36) dX6_observe_36 rfl h
        · have h := h.2 c4
          refine x_bipush (pc := 20) (v := (-2)) dX6_observe_20 (by decide) ?_
          exact x_endI (pc := 22) dX6_observe_22 rfl h
set_option maxRecDepth 100000 in
set_option maxHeartbeats 4000000 in
theorem t_X6_possibleWeights_0 {l : Launch} {G : Gx} {P : Int32 → Mem → Prop} (hG : Mn G) (a1 : Int32) (a2 : Int32) (mem : Mem)
    (h : ∃ Q1 : Int32 → Mem → Prop, CtI l M_X1_hasVertices G [.ref (gA G 1), .int a1, .int a2] mem Q1 ∧ ∀ (r3 : Int32) (m4 : Mem), Q1 r3 m4 → ((¬ r3 = 0 → (∃ Q7 : Int32 → Mem → Prop, CtI l M_X1_hasEdge G [.ref (gA G 1), .int a1, .int a2] m4 Q7 ∧ ∀ (r9 : Int32) (m10 : Mem), Q7 r9 m10 → ((¬ r9 = 0 → (∃ Q13 : Mem → Prop, CtV l M_X5_measure G [.ref (gA G 16)] m10 Q13 ∧ ∀ m16 : Mem, Q13 m16 → (∃ Q18 : Int32 → Mem → Prop, CtI l M_X3_countWeights G [.ref (gA G 291), .ref (gA G 16), .int a1, .int a2] m16 Q18 ∧ ∀ (r20 : Int32) (m21 : Mem), Q18 r20 m21 → (P r20 m21)))) ∧ (r9 = 0 → (P (-3) m10))))) ∧ (r3 = 0 → (P (-1) m4)))) :
    XI l M_X6_possibleWeights G P mem 0 [(0, .ref (gA G 0)), (1, .int a1), (2, .int a2)] [] := by
  refine x_aload_n (pc := 0) dX6_possibleWeights_0 0 rfl rfl ?_
  refine x_get (pc := 1) 0 0 dX6_possibleWeights_1 (mK hG (by decide)) (mc_0 hG _) rfl inX6 (by decide) tb_192 rfl rfl ?_
  refine x_iload_n (pc := 4) dX6_possibleWeights_4 1 rfl rfl ?_
  refine x_iload_n (pc := 5) dX6_possibleWeights_5 2 rfl rfl ?_
  obtain ⟨Q1, hc2, h⟩ := h
  refine x_callVI (pc := 6) 1 hc2 ok_X1_hasVertices dX6_possibleWeights_6 tb_263 ⟨⟨rfl, rfl⟩, ⟨by decide, by decide⟩, by decide, by decide⟩ (Fo_K0 (Fo_of hG (by decide))) (Fo_c0 (Fo_of hG (by decide)) _) rfl (As := [.int a1, .int a2]) rfl rfl (Nat.le_of_ble_eq_true rfl) (fun r3 m4 q5 => ?_)
  have h := h r3 m4 q5
  refine x_if_ne (pc := 9) (tgt := 14) dX6_possibleWeights_9 (by decide) (fun c6 => ?_) (fun c6 => ?_)
  · have h := h.1 c6
    refine x_aload_n (pc := 14) dX6_possibleWeights_14 0 rfl rfl ?_
    refine x_get (pc := 15) 0 0 dX6_possibleWeights_15 (mK hG (by decide)) (mc_0 hG _) rfl inX6 (by decide) tb_192 rfl rfl ?_
    refine x_iload_n (pc := 18) dX6_possibleWeights_18 1 rfl rfl ?_
    refine x_iload_n (pc := 19) dX6_possibleWeights_19 2 rfl rfl ?_
    obtain ⟨Q7, hc8, h⟩ := h
    refine x_callVI (pc := 20) 1 hc8 ok_X1_hasEdge dX6_possibleWeights_20 tb_267 ⟨⟨rfl, rfl⟩, ⟨by decide, by decide⟩, by decide, by decide⟩ (Fo_K0 (Fo_of hG (by decide))) (Fo_c0 (Fo_of hG (by decide)) _) rfl (As := [.int a1, .int a2]) rfl rfl (Nat.le_of_ble_eq_true rfl) (fun r9 m10 q11 => ?_)
    have h := h r9 m10 q11
    refine x_if_ne (pc := 23) (tgt := 29) dX6_possibleWeights_23 (by decide) (fun c12 => ?_) (fun c12 => ?_)
    · have h := h.1 c12
      refine x_aload_n (pc := 29) dX6_possibleWeights_29 0 rfl rfl ?_
      refine x_get (pc := 30) 0 1 dX6_possibleWeights_30 (mK hG (by decide)) (mc_0 hG _) rfl inX6 (by decide) tb_193 rfl rfl ?_
      obtain ⟨Q13, hc14, h⟩ := h
      refine x_callVV (pc := 33) 16 hc14 ok_X5_measure dX6_possibleWeights_33 tb_281 ⟨⟨rfl, rfl⟩, ⟨by decide, by decide⟩, by decide, by decide⟩ (Sv_K0 ⟨Or.inl rfl, hG⟩) (Sv_c0 ⟨Or.inl rfl, hG⟩ _) rfl (As := []) rfl rfl (Nat.le_of_ble_eq_true rfl) (fun m16 q17 => ?_)
      have h := h m16 q17
      refine x_aload_n (pc := 36) dX6_possibleWeights_36 0 rfl rfl ?_
      refine x_get (pc := 37) 0 7 dX6_possibleWeights_37 (mK hG (by decide)) (mc_0 hG _) rfl inX6 (by decide) tb_199 rfl rfl ?_
      refine x_aload_n (pc := 40) dX6_possibleWeights_40 0 rfl rfl ?_
      refine x_get (pc := 41) 0 1 dX6_possibleWeights_41 (mK hG (by decide)) (mc_0 hG _) rfl inX6 (by decide) tb_193 rfl rfl ?_
      refine x_iload_n (pc := 44) dX6_possibleWeights_44 1 rfl rfl ?_
      refine x_iload_n (pc := 45) dX6_possibleWeights_45 2 rfl rfl ?_
      obtain ⟨Q18, hc19, h⟩ := h
      refine x_callVI (pc := 46) 291 hc19 ok_X3_countWeights dX6_possibleWeights_46 tb_567 ⟨⟨rfl, rfl⟩, ⟨by decide, by decide⟩, by decide, by decide⟩ (mK hG (by decide)) (mc_291 hG _) rfl (As := [.ref (gA G 16), .int a1, .int a2]) rfl rfl (Nat.le_of_ble_eq_true rfl) (fun r20 m21 q22 => ?_)
      have h := h r20 m21 q22
      exact x_endI (pc := 49) dX6_possibleWeights_49 rfl h
    · have h := h.2 c12
      refine x_bipush (pc := 26) (v := (-3)) dX6_possibleWeights_26 (by decide) ?_
      exact x_endI (pc := 28) dX6_possibleWeights_28 rfl h
  · have h := h.2 c6
    refine x_iconst (pc := 12) (v := (-1)) dX6_possibleWeights_12 (by decide) ?_
    exact x_endI (pc := 13) dX6_possibleWeights_13 rfl h
set_option maxRecDepth 100000 in
set_option maxHeartbeats 4000000 in
theorem t_X6_runScript_0 {l : Launch} {G : Gx} {P : Int32 → Mem → Prop} (hG : Mn G) (a1 : Int32) (a2 : Int64) (mem : Mem)
    (h : (a1 < 1 → (P (-2) mem)) ∧ (¬ a1 < 1 → ((3 < a1 → (P (-2) mem)) ∧ (¬ 3 < a1 → ((0 ≤ (lg_cmp a2 0) → (XI l M_X6_runScript G P mem 25 [(0, .ref (gA G 0)), (1, .int a1), (2, .long a2), (4, .long 1), (6, .int 0)] [])) ∧ (¬ 0 ≤ (lg_cmp a2 0) → (P (-2) mem))))))) :
    XI l M_X6_runScript G P mem 0 [(0, .ref (gA G 0)), (1, .int a1), (2, .long a2)] [] := by
  refine x_iload_n (pc := 0) dX6_runScript_0 1 rfl rfl ?_
  refine x_iconst (pc := 1) (v := 1) dX6_runScript_1 (by decide) ?_
  refine x_icmp_lt (pc := 2) (tgt := 16) dX6_runScript_2 (by decide) (fun c1 => ?_) (fun c1 => ?_)
  · have h := h.1 c1
    refine x_bipush (pc := 16) (v := (-2)) dX6_runScript_16 (by decide) ?_
    exact x_endI (pc := 18) dX6_runScript_18 rfl h
  · have h := h.2 c1
    refine x_iload_n (pc := 5) dX6_runScript_5 1 rfl rfl ?_
    refine x_iconst (pc := 6) (v := 3) dX6_runScript_6 (by decide) ?_
    refine x_icmp_gt (pc := 7) (tgt := 16) dX6_runScript_7 (by decide) (fun c2 => ?_) (fun c2 => ?_)
    · have h := h.1 c2
      refine x_bipush (pc := 16) (v := (-2)) dX6_runScript_16 (by decide) ?_
      exact x_endI (pc := 18) dX6_runScript_18 rfl h
    · have h := h.2 c2
      refine x_lload_n (pc := 10) dX6_runScript_10 2 rfl rfl ?_
      refine x_lconst (pc := 11) (v := 0) dX6_runScript_11 rfl ?_
      refine x_lcmp (pc := 12) dX6_runScript_12 ?_
      refine x_if_ge (pc := 13) (tgt := 19) dX6_runScript_13 (by decide) (fun c3 => ?_) (fun c3 => ?_)
      · have h := h.1 c3
        refine x_lconst (pc := 19) (v := 1) dX6_runScript_19 rfl ?_
        refine x_lstore (pc := 20) dX6_runScript_20 (by decide) rfl ?_
        refine x_iconst (pc := 22) (v := 0) dX6_runScript_22 (by decide) ?_
        refine x_istore (pc := 23) dX6_runScript_23 (by decide) rfl ?_
        exact x_sub [2, 3, 4, 1, 0] rfl h
      · have h := h.2 c3
        refine x_bipush (pc := 16) (v := (-2)) dX6_runScript_16 (by decide) ?_
        exact x_endI (pc := 18) dX6_runScript_18 rfl h
set_option maxRecDepth 100000 in
set_option maxHeartbeats 4000000 in
theorem t_X6_runScript_25 {l : Launch} {G : Gx} {P : Int32 → Mem → Prop} (hG : Mn G) (a1 : Int32) (a2 : Int64) (a4 : Int64) (a6 : Int32) (mem : Mem)
    (h : (a1 ≤ a6 → (((lg_cmp a2 a4) < 0 → (∃ Q3 : Mem → Prop, CtV l M_X1_become G [.ref (gA G 30), .ref (gA G 1)] mem Q3 ∧ ∀ m6 : Mem, Q3 m6 → (XI l M_X6_runScript G P m6 69 [(0, .ref (gA G 0)), (1, .int a1), (2, .long a2), (4, .long a4), (6, .int 0)] []))) ∧ (¬ (lg_cmp a2 a4) < 0 → (P (-2) mem)))) ∧ (¬ a1 ≤ a6 → (XI l M_X6_runScript G P mem 25 [(0, .ref (gA G 0)), (1, .int a1), (2, .long a2), (4, .long (a4 * 100000)), (6, .int (a6 + 1))] []))) :
    XI l M_X6_runScript G P mem 25 [(0, .ref (gA G 0)), (1, .int a1), (2, .long a2), (4, .long a4), (6, .int a6)] [] := by
  refine x_iload (pc := 25) dX6_runScript_25 4 rfl ?_
  refine x_iload_n (pc := 27) dX6_runScript_27 1 rfl rfl ?_
  refine x_icmp_ge (pc := 28) (tgt := 45) dX6_runScript_28 (by decide) (fun c1 => ?_) (fun c1 => ?_)
  · have h := h.1 c1
    refine x_lload_n (pc := 45) dX6_runScript_45 2 rfl rfl ?_
    refine x_lload (pc := 46) dX6_runScript_46 3 rfl ?_
    refine x_lcmp (pc := 48) dX6_runScript_48 ?_
    refine x_if_lt (pc := 49) (tgt := 55) dX6_runScript_49 (by decide) (fun c2 => ?_) (fun c2 => ?_)
    · have h := h.1 c2
      refine x_aload_n (pc := 55) dX6_runScript_55 0 rfl rfl ?_
      refine x_get (pc := 56) 0 2 dX6_runScript_56 (mK hG (by decide)) (mc_0 hG _) rfl inX6 (by decide) tb_194 rfl rfl ?_
      refine x_aload_n (pc := 59) dX6_runScript_59 0 rfl rfl ?_
      refine x_get (pc := 60) 0 0 dX6_runScript_60 (mK hG (by decide)) (mc_0 hG _) rfl inX6 (by decide) tb_192 rfl rfl ?_
      obtain ⟨Q3, hc4, h⟩ := h
      refine x_callVV (pc := 63) 30 hc4 ok_X1_become dX6_runScript_63 tb_587 ⟨⟨rfl, rfl⟩, ⟨by decide, by decide⟩, by decide, by decide⟩ (Fo_K0 (Fo_of hG (by decide))) (Fo_c0 (Fo_of hG (by decide)) _) rfl (As := [.ref (gA G 1)]) rfl rfl (Nat.le_of_ble_eq_true rfl) (fun m6 q7 => ?_)
      have h := h m6 q7
      refine x_iconst (pc := 66) (v := 0) dX6_runScript_66 (by decide) ?_
      refine x_istore (pc := 67) dX6_runScript_67 (by decide) rfl ?_
      exact x_sub [1, 2, 3, 4, 0] rfl h
    · have h := h.2 c2
      refine x_bipush (pc := 52) (v := (-2)) dX6_runScript_52 (by decide) ?_
      exact x_endI (pc := 54) dX6_runScript_54 rfl h
  · have h := h.2 c1
    refine x_lload (pc := 31) dX6_runScript_31 3 rfl ?_
    refine x_ldc2 (pc := 33) (v := 100000) dX6_runScript_33 tb_586 ?_
    refine x_lmul (pc := 36) dX6_runScript_36 ?_
    refine x_lstore (pc := 37) dX6_runScript_37 (by decide) rfl ?_
    refine x_iinc (pc := 39) (v := (a6 + 1)) dX6_runScript_39 (k := 4) rfl rfl (by decide) rfl ?_
    refine x_goto (pc := 42) (tgt := 25) dX6_runScript_42 (by decide) ?_
    exact x_sub [2, 3, 4, 1, 0] rfl h
set_option maxRecDepth 100000 in
set_option maxHeartbeats 4000000 in
theorem t_X6_runScript_69 {l : Launch} {G : Gx} {P : Int32 → Mem → Prop} (hG : Mn G) (a1 : Int32) (a2 : Int64) (a4 : Int64) (a6 : Int32) (mem : Mem)
    (h : (a1 ≤ a6 → (P (-9) mem)) ∧ (¬ a1 ≤ a6 → (((lg_cmp (a4 / 100000) 1) < 0 → (P a6 mem)) ∧ (¬ (lg_cmp (a4 / 100000) 1) < 0 → (¬ (a4 / 100000) = 0 ∧ (∃ Q3 : Int32 → Mem → Prop, CtI l M_X6_obeys G [.ref (gA G 0), .int ((((a2 / (a4 / 100000)) - (a2 / (a4 / 100000)) / 100000 * 100000) : Int64).toInt32)] mem Q3 ∧ ∀ (r5 : Int32) (m6 : Mem), Q3 r5 m6 → ((¬ r5 = 0 → (XI l M_X6_runScript G P m6 69 [(0, .ref (gA G 0)), (1, .int a1), (2, .long a2), (4, .long (a4 / 100000)), (6, .int (a6 + 1))] [])) ∧ (r5 = 0 → (P a6 m6))))))))) :
    XI l M_X6_runScript G P mem 69 [(0, .ref (gA G 0)), (1, .int a1), (2, .long a2), (4, .long a4), (6, .int a6)] [] := by
  refine x_iload (pc := 69) dX6_runScript_69 4 rfl ?_
  refine x_iload_n (pc := 71) dX6_runScript_71 1 rfl rfl ?_
  refine x_icmp_ge (pc := 72) (tgt := 115) dX6_runScript_72 (by decide) (fun c1 => ?_) (fun c1 => ?_)
  · have h := h.1 c1
    refine x_bipush (pc := 115) (v := (-9)) dX6_runScript_115 (by decide) ?_
    exact x_endI (pc := 117) dX6_runScript_117 rfl h
  · have h := h.2 c1
    refine x_lload (pc := 75) dX6_runScript_75 3 rfl ?_
    refine x_ldc2 (pc := 77) (v := 100000) dX6_runScript_77 tb_586 ?_
    refine x_ldiv (pc := 80) dX6_runScript_80 (by decide) ?_
    refine x_lstore (pc := 81) dX6_runScript_81 (by decide) rfl ?_
    refine x_lload (pc := 83) dX6_runScript_83 0 rfl ?_
    refine x_lconst (pc := 85) (v := 1) dX6_runScript_85 rfl ?_
    refine x_lcmp (pc := 86) dX6_runScript_86 ?_
    refine x_if_lt (pc := 87) (tgt := 106) dX6_runScript_87 (by decide) (fun c2 => ?_) (fun c2 => ?_)
    · have h := h.1 c2
      refine x_iload (pc := 106) dX6_runScript_106 4 rfl ?_
      exact x_endI (pc := 108) dX6_runScript_108 rfl h
    · have h := h.2 c2
      refine x_aload_n (pc := 90) dX6_runScript_90 1 rfl rfl ?_
      refine x_lload_n (pc := 91) dX6_runScript_91 3 rfl rfl ?_
      refine x_lload (pc := 92) dX6_runScript_92 0 rfl ?_
      refine x_ldiv (pc := 94) dX6_runScript_94 h.1 ?_
      have h := h.2
      refine x_ldc2 (pc := 95) (v := 100000) dX6_runScript_95 tb_586 ?_
      refine x_lrem (pc := 98) dX6_runScript_98 (by decide) ?_
      refine x_l2i (pc := 99) dX6_runScript_99 ?_
      obtain ⟨Q3, hc4, h⟩ := h
      refine x_callVI (pc := 100) 0 hc4 ok_X6_obeys dX6_runScript_100 tb_588 ⟨⟨rfl, rfl⟩, ⟨by decide, by decide⟩, by decide, by decide⟩ (mK hG (by decide)) (mc_0 hG _) rfl (As := [.int ((((a2 / (a4 / 100000)) - (a2 / (a4 / 100000)) / 100000 * 100000) : Int64).toInt32)]) rfl rfl (Nat.le_of_ble_eq_true rfl) (fun r5 m6 q7 => ?_)
      have h := h r5 m6 q7
      refine x_if_ne (pc := 103) (tgt := 109) dX6_runScript_103 (by decide) (fun c8 => ?_) (fun c8 => ?_)
      · have h := h.1 c8
        refine x_iinc (pc := 109) (v := (a6 + 1)) dX6_runScript_109 (k := 4) rfl rfl (by decide) rfl ?_
        refine x_goto (pc := 112) (tgt := 69) dX6_runScript_112 (by decide) ?_
        exact x_sub [2, 3, 4, 1, 0] rfl h
      · have h := h.2 c8
        refine x_iload (pc := 106) dX6_runScript_106 4 rfl ?_
        exact x_endI (pc := 108) dX6_runScript_108 rfl h
set_option maxRecDepth 100000 in
set_option maxHeartbeats 4000000 in
theorem t_X6_obeys_0 {l : Launch} {G : Gx} {P : Int32 → Mem → Prop} (hG : Mn G) (a1 : Int32) (mem : Mem)
    (h : XI l M_X6_obeys G P mem 13 [(0, .ref (gA G 0)), (1, .int a1), (2, .int ((a1 / 100) - (a1 / 100) / 100 * 100)), (3, .int (a1 - a1 / 100 * 100))] []) :
    XI l M_X6_obeys G P mem 0 [(0, .ref (gA G 0)), (1, .int a1)] [] := by
  refine x_iload_n (pc := 0) dX6_obeys_0 1 rfl rfl ?_
  refine x_bipush (pc := 1) (v := 100) dX6_obeys_1 (by decide) ?_
  refine x_idiv (pc := 3) dX6_obeys_3 (by decide) ?_
  refine x_bipush (pc := 4) (v := 100) dX6_obeys_4 (by decide) ?_
  refine x_irem (pc := 6) dX6_obeys_6 (by decide) ?_
  refine x_istore_n (pc := 7) dX6_obeys_7 rfl (by decide) rfl ?_
  refine x_iload_n (pc := 8) dX6_obeys_8 2 rfl rfl ?_
  refine x_bipush (pc := 9) (v := 100) dX6_obeys_9 (by decide) ?_
  refine x_irem (pc := 11) dX6_obeys_11 (by decide) ?_
  refine x_istore_n (pc := 12) dX6_obeys_12 rfl (by decide) rfl ?_
  exact x_sub [2, 3, 1, 0] rfl h
set_option maxRecDepth 100000 in
set_option maxHeartbeats 4000000 in
theorem t_X6_obeys_13 {l : Launch} {G : Gx} {P : Int32 → Mem → Prop} (hG : Mn G) (a1 : Int32) (a2 : Int32) (a3 : Int32) (mem : Mem)
    (h : ((a1 / 10000).toInt = 1 → (∃ Q2 : Int32 → Mem → Prop, CtI l M_X6_triesLink G [.ref (gA G 0), .int a2, .int a3] mem Q2 ∧ ∀ (r4 : Int32) (m5 : Mem), Q2 r4 m5 → ((r4 = 0 ∨ r4 = 1) ∧ P r4 m5))) ∧ ((a1 / 10000).toInt = 2 → (∃ Q7 : Int32 → Mem → Prop, CtI l M_X6_triesCut G [.ref (gA G 0), .int a2, .int a3] mem Q7 ∧ ∀ (r9 : Int32) (m10 : Mem), Q7 r9 m10 → ((r9 = 0 ∨ r9 = 1) ∧ P r9 m10))) ∧ ((a1 / 10000).toInt = 3 → (∃ Q12 : Int32 → Mem → Prop, CtI l M_X6_joinedInTrial G [.ref (gA G 0), .int a2, .int a3] mem Q12 ∧ ∀ (r14 : Int32) (m15 : Mem), Q12 r14 m15 → ((r14 = 0 ∨ r14 = 1) ∧ P r14 m15))) ∧ ((a1 / 10000).toInt = 4 → (∃ Q17 : Int32 → Mem → Prop, CtI l M_X6_joinedInTrial G [.ref (gA G 0), .int a2, .int a3] mem Q17 ∧ ∀ (r19 : Int32) (m20 : Mem), Q17 r19 m20 → ((r19 = 0 → (P 0 m20)) ∧ (¬ r19 = 0 → (∃ Q23 : Int32 → Mem → Prop, CtI l M_X5_middleOf G [.ref (gA G 45), .int a2] m20 Q23 ∧ ∀ (r25 : Int32) (m26 : Mem), Q23 r25 m26 → ((¬ r25 = a3 → (P 0 m26)) ∧ (r25 = a3 → (P 1 m26)))))))) ∧ ((a1 / 10000).toInt = 5 → (∃ Q29 : Int32 → Mem → Prop, CtI l M_X6_joinedInTrial G [.ref (gA G 0), .int a2, .int a3] mem Q29 ∧ ∀ (r31 : Int32) (m32 : Mem), Q29 r31 m32 → ((r31 = 0 → (P 0 m32)) ∧ (¬ r31 = 0 → (∃ Q35 : Int32 → Mem → Prop, CtI l M_X6_leavesEarlier G [.ref (gA G 0), .int a2, .int a3] m32 Q35 ∧ ∀ (r37 : Int32) (m38 : Mem), Q35 r37 m38 → ((r37 = 0 → (P 0 m38)) ∧ (¬ r37 = 0 → (P 1 m38)))))))) ∧ (¬ (a1 / 10000).toInt = 1 → ¬ (a1 / 10000).toInt = 2 → ¬ (a1 / 10000).toInt = 3 → ¬ (a1 / 10000).toInt = 4 → ¬ (a1 / 10000).toInt = 5 → (P 0 mem))) :
    XI l M_X6_obeys G P mem 13 [(0, .ref (gA G 0)), (1, .int a1), (2, .int a2), (3, .int a3)] [] := by
  refine x_iload_n (pc := 13) dX6_obeys_13 1 rfl rfl ?_
  refine x_sipush (pc := 14) (v := 10000) dX6_obeys_14 (by decide) ?_
  refine x_idiv (pc := 17) dX6_obeys_17 (by decide) ?_
  by_cases c1_1 : (a1 / 10000).toInt = 1
  · have h := h.1 c1_1
    refine x_tableIn (pc := 18) (tgt := 52) (off := 34) dX6_obeys_18 (by rw [c1_1]; decide) (by rw [c1_1]; decide) (by rw [c1_1]; rfl) (by decide) ?_
    refine x_aload_n (pc := 52) dX6_obeys_52 0 rfl rfl ?_
    refine x_iload_n (pc := 53) dX6_obeys_53 2 rfl rfl ?_
    refine x_iload_n (pc := 54) dX6_obeys_54 3 rfl rfl ?_
    obtain ⟨Q2, hc3, h⟩ := h
    refine x_callVI (pc := 55) 0 hc3 ok_X6_triesLink dX6_obeys_55 tb_592 ⟨⟨rfl, rfl⟩, ⟨by decide, by decide⟩, by decide, by decide⟩ (mK hG (by decide)) (mc_0 hG _) rfl (As := [.int a2, .int a3]) rfl rfl (Nat.le_of_ble_eq_true rfl) (fun r4 m5 q6 => ?_)
    have h := h r4 m5 q6
    exact x_endZ (pc := 58) dX6_obeys_58 rfl h.1 h.2
  have h := h.2
  by_cases c1_2 : (a1 / 10000).toInt = 2
  · have h := h.1 c1_2
    refine x_tableIn (pc := 18) (tgt := 59) (off := 41) dX6_obeys_18 (by rw [c1_2]; decide) (by rw [c1_2]; decide) (by rw [c1_2]; rfl) (by decide) ?_
    refine x_aload_n (pc := 59) dX6_obeys_59 0 rfl rfl ?_
    refine x_iload_n (pc := 60) dX6_obeys_60 2 rfl rfl ?_
    refine x_iload_n (pc := 61) dX6_obeys_61 3 rfl rfl ?_
    obtain ⟨Q7, hc8, h⟩ := h
    refine x_callVI (pc := 62) 0 hc8 ok_X6_triesCut dX6_obeys_62 tb_596 ⟨⟨rfl, rfl⟩, ⟨by decide, by decide⟩, by decide, by decide⟩ (mK hG (by decide)) (mc_0 hG _) rfl (As := [.int a2, .int a3]) rfl rfl (Nat.le_of_ble_eq_true rfl) (fun r9 m10 q11 => ?_)
    have h := h r9 m10 q11
    exact x_endZ (pc := 65) dX6_obeys_65 rfl h.1 h.2
  have h := h.2
  by_cases c1_3 : (a1 / 10000).toInt = 3
  · have h := h.1 c1_3
    refine x_tableIn (pc := 18) (tgt := 66) (off := 48) dX6_obeys_18 (by rw [c1_3]; decide) (by rw [c1_3]; decide) (by rw [c1_3]; rfl) (by decide) ?_
    refine x_aload_n (pc := 66) dX6_obeys_66 0 rfl rfl ?_
    refine x_iload_n (pc := 67) dX6_obeys_67 2 rfl rfl ?_
    refine x_iload_n (pc := 68) dX6_obeys_68 3 rfl rfl ?_
    obtain ⟨Q12, hc13, h⟩ := h
    refine x_callVI (pc := 69) 0 hc13 ok_X6_joinedInTrial dX6_obeys_69 tb_600 ⟨⟨rfl, rfl⟩, ⟨by decide, by decide⟩, by decide, by decide⟩ (mK hG (by decide)) (mc_0 hG _) rfl (As := [.int a2, .int a3]) rfl rfl (Nat.le_of_ble_eq_true rfl) (fun r14 m15 q16 => ?_)
    have h := h r14 m15 q16
    exact x_endZ (pc := 72) dX6_obeys_72 rfl h.1 h.2
  have h := h.2
  by_cases c1_4 : (a1 / 10000).toInt = 4
  · have h := h.1 c1_4
    refine x_tableIn (pc := 18) (tgt := 73) (off := 55) dX6_obeys_18 (by rw [c1_4]; decide) (by rw [c1_4]; decide) (by rw [c1_4]; rfl) (by decide) ?_
    refine x_aload_n (pc := 73) dX6_obeys_73 0 rfl rfl ?_
    refine x_iload_n (pc := 74) dX6_obeys_74 2 rfl rfl ?_
    refine x_iload_n (pc := 75) dX6_obeys_75 3 rfl rfl ?_
    obtain ⟨Q17, hc18, h⟩ := h
    refine x_callVI (pc := 76) 0 hc18 ok_X6_joinedInTrial dX6_obeys_76 tb_600 ⟨⟨rfl, rfl⟩, ⟨by decide, by decide⟩, by decide, by decide⟩ (mK hG (by decide)) (mc_0 hG _) rfl (As := [.int a2, .int a3]) rfl rfl (Nat.le_of_ble_eq_true rfl) (fun r19 m20 q21 => ?_)
    have h := h r19 m20 q21
    refine x_if_eq (pc := 79) (tgt := 98) dX6_obeys_79 (by decide) (fun c22 => ?_) (fun c22 => ?_)
    · have h := h.1 c22
      refine x_iconst (pc := 98) (v := 0) dX6_obeys_98 (by decide) ?_
      exact x_endZ (pc := 99) dX6_obeys_99 rfl (Or.inl rfl) h
    · have h := h.2 c22
      refine x_aload_n (pc := 82) dX6_obeys_82 0 rfl rfl ?_
      refine x_get (pc := 83) 0 3 dX6_obeys_83 (mK hG (by decide)) (mc_0 hG _) rfl inX6 (by decide) tb_195 rfl rfl ?_
      refine x_iload_n (pc := 86) dX6_obeys_86 2 rfl rfl ?_
      obtain ⟨Q23, hc24, h⟩ := h
      refine x_callVI (pc := 87) 45 hc24 ok_X5_middleOf dX6_obeys_87 tb_409 ⟨⟨rfl, rfl⟩, ⟨by decide, by decide⟩, by decide, by decide⟩ (Sv_K0 ⟨Or.inr rfl, hG⟩) (Sv_c0 ⟨Or.inr rfl, hG⟩ _) rfl (As := [.int a2]) rfl rfl (Nat.le_of_ble_eq_true rfl) (fun r25 m26 q27 => ?_)
      have h := h r25 m26 q27
      refine x_iload_n (pc := 90) dX6_obeys_90 3 rfl rfl ?_
      refine x_icmp_ne (pc := 91) (tgt := 98) dX6_obeys_91 (by decide) (fun c28 => ?_) (fun c28 => ?_)
      · have h := h.1 c28
        refine x_iconst (pc := 98) (v := 0) dX6_obeys_98 (by decide) ?_
        exact x_endZ (pc := 99) dX6_obeys_99 rfl (Or.inl rfl) h
      · have h := h.2 c28
        refine x_iconst (pc := 94) (v := 1) dX6_obeys_94 (by decide) ?_
        refine x_goto (pc := 95) (tgt := 99) dX6_obeys_95 (by decide) ?_
        exact x_endZ (pc := 99) dX6_obeys_99 rfl (Or.inr rfl) h
  have h := h.2
  by_cases c1_5 : (a1 / 10000).toInt = 5
  · have h := h.1 c1_5
    refine x_tableIn (pc := 18) (tgt := 100) (off := 82) dX6_obeys_18 (by rw [c1_5]; decide) (by rw [c1_5]; decide) (by rw [c1_5]; rfl) (by decide) ?_
    refine x_aload_n (pc := 100) dX6_obeys_100 0 rfl rfl ?_
    refine x_iload_n (pc := 101) dX6_obeys_101 2 rfl rfl ?_
    refine x_iload_n (pc := 102) dX6_obeys_102 3 rfl rfl ?_
    obtain ⟨Q29, hc30, h⟩ := h
    refine x_callVI (pc := 103) 0 hc30 ok_X6_joinedInTrial dX6_obeys_103 tb_600 ⟨⟨rfl, rfl⟩, ⟨by decide, by decide⟩, by decide, by decide⟩ (mK hG (by decide)) (mc_0 hG _) rfl (As := [.int a2, .int a3]) rfl rfl (Nat.le_of_ble_eq_true rfl) (fun r31 m32 q33 => ?_)
    have h := h r31 m32 q33
    refine x_if_eq (pc := 106) (tgt := 122) dX6_obeys_106 (by decide) (fun c34 => ?_) (fun c34 => ?_)
    · have h := h.1 c34
      refine x_iconst (pc := 122) (v := 0) dX6_obeys_122 (by decide) ?_
      exact x_endZ (pc := 123) dX6_obeys_123 rfl (Or.inl rfl) h
    · have h := h.2 c34
      refine x_aload_n (pc := 109) dX6_obeys_109 0 rfl rfl ?_
      refine x_iload_n (pc := 110) dX6_obeys_110 2 rfl rfl ?_
      refine x_iload_n (pc := 111) dX6_obeys_111 3 rfl rfl ?_
      obtain ⟨Q35, hc36, h⟩ := h
      refine x_callVI (pc := 112) 0 hc36 ok_X6_leavesEarlier dX6_obeys_112 tb_604 ⟨⟨rfl, rfl⟩, ⟨by decide, by decide⟩, by decide, by decide⟩ (mK hG (by decide)) (mc_0 hG _) rfl (As := [.int a2, .int a3]) rfl rfl (Nat.le_of_ble_eq_true rfl) (fun r37 m38 q39 => ?_)
      have h := h r37 m38 q39
      refine x_if_eq (pc := 115) (tgt := 122) dX6_obeys_115 (by decide) (fun c40 => ?_) (fun c40 => ?_)
      · have h := h.1 c40
        refine x_iconst (pc := 122) (v := 0) dX6_obeys_122 (by decide) ?_
        exact x_endZ (pc := 123) dX6_obeys_123 rfl (Or.inl rfl) h
      · have h := h.2 c40
        refine x_iconst (pc := 118) (v := 1) dX6_obeys_118 (by decide) ?_
        refine x_goto (pc := 119) (tgt := 123) dX6_obeys_119 (by decide) ?_
        exact x_endZ (pc := 123) dX6_obeys_123 rfl (Or.inr rfl) h
  have h := h.2
  have h := h c1_1 c1_2 c1_3 c1_4 c1_5
  refine x_tableOut (pc := 18) (tgt := 124) dX6_obeys_18 (by clear h; omega) (by decide) ?_
  refine x_iconst (pc := 124) (v := 0) dX6_obeys_124 (by decide) ?_
  exact x_endZ (pc := 125) dX6_obeys_125 rfl (Or.inl rfl) h
set_option maxRecDepth 100000 in
set_option maxHeartbeats 4000000 in
theorem t_X6_triesLink_0 {l : Launch} {G : Gx} {P : Int32 → Mem → Prop} (hG : Mn G) (a1 : Int32) (a2 : Int32) (mem : Mem)
    (h : ∃ Q1 : Int32 → Mem → Prop, CtI l M_X6_linkError G [.ref (gA G 30), .ref (gA G 45), .int a1, .int a2, .int 1] mem Q1 ∧ ∀ (r3 : Int32) (m4 : Mem), Q1 r3 m4 → ((r3 = 0 → (∃ Q7 : Mem → Prop, CtV l M_X1_putEdge G [.ref (gA G 30), .int a1, .int a2, .int 1] m4 Q7 ∧ ∀ m10 : Mem, Q7 m10 → (P 1 m10))) ∧ (¬ r3 = 0 → (P 0 m4)))) :
    XI l M_X6_triesLink G P mem 0 [(0, .ref (gA G 0)), (1, .int a1), (2, .int a2)] [] := by
  refine x_aload_n (pc := 0) dX6_triesLink_0 0 rfl rfl ?_
  refine x_get (pc := 1) 0 2 dX6_triesLink_1 (mK hG (by decide)) (mc_0 hG _) rfl inX6 (by decide) tb_194 rfl rfl ?_
  refine x_aload_n (pc := 4) dX6_triesLink_4 0 rfl rfl ?_
  refine x_get (pc := 5) 0 3 dX6_triesLink_5 (mK hG (by decide)) (mc_0 hG _) rfl inX6 (by decide) tb_195 rfl rfl ?_
  refine x_iload_n (pc := 8) dX6_triesLink_8 1 rfl rfl ?_
  refine x_iload_n (pc := 9) dX6_triesLink_9 2 rfl rfl ?_
  refine x_iconst (pc := 10) (v := 1) dX6_triesLink_10 (by decide) ?_
  obtain ⟨Q1, hc2, h⟩ := h
  refine x_callSI (pc := 11) hc2 ok_X6_linkError dX6_triesLink_11 tb_312 ⟨⟨rfl, rfl⟩, ⟨by decide, by decide⟩, by decide, by decide⟩ rfl rfl (Nat.le_of_ble_eq_true rfl) (fun r3 m4 q5 => ?_)
  have h := h r3 m4 q5
  refine x_if_eq (pc := 14) (tgt := 19) dX6_triesLink_14 (by decide) (fun c6 => ?_) (fun c6 => ?_)
  · have h := h.1 c6
    refine x_aload_n (pc := 19) dX6_triesLink_19 0 rfl rfl ?_
    refine x_get (pc := 20) 0 2 dX6_triesLink_20 (mK hG (by decide)) (mc_0 hG _) rfl inX6 (by decide) tb_194 rfl rfl ?_
    refine x_iload_n (pc := 23) dX6_triesLink_23 1 rfl rfl ?_
    refine x_iload_n (pc := 24) dX6_triesLink_24 2 rfl rfl ?_
    refine x_iconst (pc := 25) (v := 1) dX6_triesLink_25 (by decide) ?_
    obtain ⟨Q7, hc8, h⟩ := h
    refine x_callVV (pc := 26) 30 hc8 ok_X1_putEdge dX6_triesLink_26 tb_328 ⟨⟨rfl, rfl⟩, ⟨by decide, by decide⟩, by decide, by decide⟩ (Fo_K0 (Fo_of hG (by decide))) (Fo_c0 (Fo_of hG (by decide)) _) rfl (As := [.int a1, .int a2, .int 1]) rfl rfl (Nat.le_of_ble_eq_true rfl) (fun m10 q11 => ?_)
    have h := h m10 q11
    refine x_iconst (pc := 29) (v := 1) dX6_triesLink_29 (by decide) ?_
    exact x_endZ (pc := 30) dX6_triesLink_30 rfl (Or.inr rfl) h
  · have h := h.2 c6
    refine x_iconst (pc := 17) (v := 0) dX6_triesLink_17 (by decide) ?_
    exact x_endZ (pc := 18) dX6_triesLink_18 rfl (Or.inl rfl) h
set_option maxRecDepth 100000 in
set_option maxHeartbeats 4000000 in
theorem t_X6_triesCut_0 {l : Launch} {G : Gx} {P : Int32 → Mem → Prop} (hG : Mn G) (a1 : Int32) (a2 : Int32) (mem : Mem)
    (h : ∃ Q1 : Int32 → Mem → Prop, CtI l M_X6_cutError G [.ref (gA G 30), .int a1, .int a2] mem Q1 ∧ ∀ (r3 : Int32) (m4 : Mem), Q1 r3 m4 → ((r3 = 0 → (∃ Q7 : Mem → Prop, CtV l M_X1_putEdge G [.ref (gA G 30), .int a1, .int a2, .int 0] m4 Q7 ∧ ∀ m10 : Mem, Q7 m10 → (P 1 m10))) ∧ (¬ r3 = 0 → (P 0 m4)))) :
    XI l M_X6_triesCut G P mem 0 [(0, .ref (gA G 0)), (1, .int a1), (2, .int a2)] [] := by
  refine x_aload_n (pc := 0) dX6_triesCut_0 0 rfl rfl ?_
  refine x_get (pc := 1) 0 2 dX6_triesCut_1 (mK hG (by decide)) (mc_0 hG _) rfl inX6 (by decide) tb_194 rfl rfl ?_
  refine x_iload_n (pc := 4) dX6_triesCut_4 1 rfl rfl ?_
  refine x_iload_n (pc := 5) dX6_triesCut_5 2 rfl rfl ?_
  obtain ⟨Q1, hc2, h⟩ := h
  refine x_callSI (pc := 6) hc2 ok_X6_cutError dX6_triesCut_6 tb_341 ⟨⟨rfl, rfl⟩, ⟨by decide, by decide⟩, by decide, by decide⟩ rfl rfl (Nat.le_of_ble_eq_true rfl) (fun r3 m4 q5 => ?_)
  have h := h r3 m4 q5
  refine x_if_eq (pc := 9) (tgt := 14) dX6_triesCut_9 (by decide) (fun c6 => ?_) (fun c6 => ?_)
  · have h := h.1 c6
    refine x_aload_n (pc := 14) dX6_triesCut_14 0 rfl rfl ?_
    refine x_get (pc := 15) 0 2 dX6_triesCut_15 (mK hG (by decide)) (mc_0 hG _) rfl inX6 (by decide) tb_194 rfl rfl ?_
    refine x_iload_n (pc := 18) dX6_triesCut_18 1 rfl rfl ?_
    refine x_iload_n (pc := 19) dX6_triesCut_19 2 rfl rfl ?_
    refine x_iconst (pc := 20) (v := 0) dX6_triesCut_20 (by decide) ?_
    obtain ⟨Q7, hc8, h⟩ := h
    refine x_callVV (pc := 21) 30 hc8 ok_X1_putEdge dX6_triesCut_21 tb_328 ⟨⟨rfl, rfl⟩, ⟨by decide, by decide⟩, by decide, by decide⟩ (Fo_K0 (Fo_of hG (by decide))) (Fo_c0 (Fo_of hG (by decide)) _) rfl (As := [.int a1, .int a2, .int 0]) rfl rfl (Nat.le_of_ble_eq_true rfl) (fun m10 q11 => ?_)
    have h := h m10 q11
    refine x_iconst (pc := 24) (v := 1) dX6_triesCut_24 (by decide) ?_
    exact x_endZ (pc := 25) dX6_triesCut_25 rfl (Or.inr rfl) h
  · have h := h.2 c6
    refine x_iconst (pc := 12) (v := 0) dX6_triesCut_12 (by decide) ?_
    exact x_endZ (pc := 13) dX6_triesCut_13 rfl (Or.inl rfl) h
set_option maxRecDepth 100000 in
set_option maxHeartbeats 4000000 in
theorem t_X6_joinedInTrial_0 {l : Launch} {G : Gx} {P : Int32 → Mem → Prop} (hG : Mn G) (a1 : Int32) (a2 : Int32) (mem : Mem)
    (h : ∃ Q1 : Mem → Prop, CtV l M_X5_measure G [.ref (gA G 45)] mem Q1 ∧ ∀ m4 : Mem, Q1 m4 → (∃ Q6 : Int32 → Mem → Prop, CtI l M_X5_joined G [.ref (gA G 45), .int a1, .int a2] m4 Q6 ∧ ∀ (r8 : Int32) (m9 : Mem), Q6 r8 m9 → ((r8 = 0 ∨ r8 = 1) ∧ P r8 m9))) :
    XI l M_X6_joinedInTrial G P mem 0 [(0, .ref (gA G 0)), (1, .int a1), (2, .int a2)] [] := by
  refine x_aload_n (pc := 0) dX6_joinedInTrial_0 0 rfl rfl ?_
  refine x_get (pc := 1) 0 3 dX6_joinedInTrial_1 (mK hG (by decide)) (mc_0 hG _) rfl inX6 (by decide) tb_195 rfl rfl ?_
  obtain ⟨Q1, hc2, h⟩ := h
  refine x_callVV (pc := 4) 45 hc2 ok_X5_measure dX6_joinedInTrial_4 tb_281 ⟨⟨rfl, rfl⟩, ⟨by decide, by decide⟩, by decide, by decide⟩ (Sv_K0 ⟨Or.inr rfl, hG⟩) (Sv_c0 ⟨Or.inr rfl, hG⟩ _) rfl (As := []) rfl rfl (Nat.le_of_ble_eq_true rfl) (fun m4 q5 => ?_)
  have h := h m4 q5
  refine x_aload_n (pc := 7) dX6_joinedInTrial_7 0 rfl rfl ?_
  refine x_get (pc := 8) 0 3 dX6_joinedInTrial_8 (mK hG (by decide)) (mc_0 hG _) rfl inX6 (by decide) tb_195 rfl rfl ?_
  refine x_iload_n (pc := 11) dX6_joinedInTrial_11 1 rfl rfl ?_
  refine x_iload_n (pc := 12) dX6_joinedInTrial_12 2 rfl rfl ?_
  obtain ⟨Q6, hc7, h⟩ := h
  refine x_callVI (pc := 13) 45 hc7 ok_X5_joined dX6_joinedInTrial_13 tb_315 ⟨⟨rfl, rfl⟩, ⟨by decide, by decide⟩, by decide, by decide⟩ (Sv_K0 ⟨Or.inr rfl, hG⟩) (Sv_c0 ⟨Or.inr rfl, hG⟩ _) rfl (As := [.int a1, .int a2]) rfl rfl (Nat.le_of_ble_eq_true rfl) (fun r8 m9 q10 => ?_)
  have h := h r8 m9 q10
  exact x_endZ (pc := 16) dX6_joinedInTrial_16 rfl h.1 h.2
set_option maxRecDepth 100000 in
set_option maxHeartbeats 4000000 in
theorem t_X6_leavesEarlier_0 {l : Launch} {G : Gx} {P : Int32 → Mem → Prop} (hG : Mn G) (a1 : Int32) (a2 : Int32) (mem : Mem)
    (h : ∃ Q1 : Mem → Prop, CtV l M_X0_contract G [.ref (gA G 59), .ref (gA G 30), .int a1] mem Q1 ∧ ∀ m4 : Mem, Q1 m4 → (∃ Q6 : Int32 → Mem → Prop, CtI l M_X0_roundOf G [.ref (gA G 59), .int a1] m4 Q6 ∧ ∀ (r8 : Int32) (m9 : Mem), Q6 r8 m9 → (∃ Q11 : Int32 → Mem → Prop, CtI l M_X0_roundOf G [.ref (gA G 59), .int a2] m9 Q11 ∧ ∀ (r13 : Int32) (m14 : Mem), Q11 r13 m14 → ((r8 = (-9) → (P 0 m14)) ∧ (¬ r8 = (-9) → ((r13 = (-9) → (P 1 m14)) ∧ (¬ r13 = (-9) → ((r13 ≤ r8 → (P 0 m14)) ∧ (¬ r13 ≤ r8 → (P 1 m14)))))))))) :
    XI l M_X6_leavesEarlier G P mem 0 [(0, .ref (gA G 0)), (1, .int a1), (2, .int a2)] [] := by
  refine x_aload_n (pc := 0) dX6_leavesEarlier_0 0 rfl rfl ?_
  refine x_get (pc := 1) 0 4 dX6_leavesEarlier_1 (mK hG (by decide)) (mc_0 hG _) rfl inX6 (by decide) tb_196 rfl rfl ?_
  refine x_aload_n (pc := 4) dX6_leavesEarlier_4 0 rfl rfl ?_
  refine x_get (pc := 5) 0 2 dX6_leavesEarlier_5 (mK hG (by decide)) (mc_0 hG _) rfl inX6 (by decide) tb_194 rfl rfl ?_
  refine x_iload_n (pc := 8) dX6_leavesEarlier_8 1 rfl rfl ?_
  obtain ⟨Q1, hc2, h⟩ := h
  refine x_callVV (pc := 9) 59 hc2 ok_X0_contract dX6_leavesEarlier_9 tb_448 ⟨⟨rfl, rfl⟩, ⟨by decide, by decide⟩, by decide, by decide⟩ (mK hG (by decide)) (mc_59 hG _) rfl (As := [.ref (gA G 30), .int a1]) rfl rfl (Nat.le_of_ble_eq_true rfl) (fun m4 q5 => ?_)
  have h := h m4 q5
  refine x_aload_n (pc := 12) dX6_leavesEarlier_12 0 rfl rfl ?_
  refine x_get (pc := 13) 0 4 dX6_leavesEarlier_13 (mK hG (by decide)) (mc_0 hG _) rfl inX6 (by decide) tb_196 rfl rfl ?_
  refine x_iload_n (pc := 16) dX6_leavesEarlier_16 1 rfl rfl ?_
  obtain ⟨Q6, hc7, h⟩ := h
  refine x_callVI (pc := 17) 59 hc7 ok_X0_roundOf dX6_leavesEarlier_17 tb_511 ⟨⟨rfl, rfl⟩, ⟨by decide, by decide⟩, by decide, by decide⟩ (mK hG (by decide)) (mc_59 hG _) rfl (As := [.int a1]) rfl rfl (Nat.le_of_ble_eq_true rfl) (fun r8 m9 q10 => ?_)
  have h := h r8 m9 q10
  refine x_istore_n (pc := 20) dX6_leavesEarlier_20 rfl (by decide) rfl ?_
  refine x_aload_n (pc := 21) dX6_leavesEarlier_21 1 rfl rfl ?_
  refine x_get (pc := 22) 0 4 dX6_leavesEarlier_22 (mK hG (by decide)) (mc_0 hG _) rfl inX6 (by decide) tb_196 rfl rfl ?_
  refine x_iload_n (pc := 25) dX6_leavesEarlier_25 3 rfl rfl ?_
  obtain ⟨Q11, hc12, h⟩ := h
  refine x_callVI (pc := 26) 59 hc12 ok_X0_roundOf dX6_leavesEarlier_26 tb_511 ⟨⟨rfl, rfl⟩, ⟨by decide, by decide⟩, by decide, by decide⟩ (mK hG (by decide)) (mc_59 hG _) rfl (As := [.int a2]) rfl rfl (Nat.le_of_ble_eq_true rfl) (fun r13 m14 q15 => ?_)
  have h := h r13 m14 q15
  refine x_istore (pc := 29) dX6_leavesEarlier_29 (by decide) rfl ?_
  refine x_iload_n (pc := 31) dX6_leavesEarlier_31 1 rfl rfl ?_
  refine x_bipush (pc := 32) (v := (-9)) dX6_leavesEarlier_32 (by decide) ?_
  refine x_icmp_eq (pc := 34) (tgt := 54) dX6_leavesEarlier_34 (by decide) (fun c16 => ?_) (fun c16 => ?_)
  · have h := h.1 c16
    refine x_iconst (pc := 54) (v := 0) dX6_leavesEarlier_54 (by decide) ?_
    exact x_endZ (pc := 55) dX6_leavesEarlier_55 rfl (Or.inl rfl) h
  · have h := h.2 c16
    refine x_iload (pc := 37) dX6_leavesEarlier_37 0 rfl ?_
    refine x_bipush (pc := 39) (v := (-9)) dX6_leavesEarlier_39 (by decide) ?_
    refine x_icmp_eq (pc := 41) (tgt := 50) dX6_leavesEarlier_41 (by decide) (fun c17 => ?_) (fun c17 => ?_)
    · have h := h.1 c17
      refine x_iconst (pc := 50) (v := 1) dX6_leavesEarlier_50 (by decide) ?_
      refine x_goto (pc := 51) (tgt := 55) dX6_leavesEarlier_51 (by decide) ?_
      exact x_endZ (pc := 55) dX6_leavesEarlier_55 rfl (Or.inr rfl) h
    · have h := h.2 c17
      refine x_iload_n (pc := 44) dX6_leavesEarlier_44 1 rfl rfl ?_
      refine x_iload (pc := 45) dX6_leavesEarlier_45 0 rfl ?_
      refine x_icmp_ge (pc := 47) (tgt := 54) dX6_leavesEarlier_47 (by decide) (fun c18 => ?_) (fun c18 => ?_)
      · have h := h.1 c18
        refine x_iconst (pc := 54) (v := 0) dX6_leavesEarlier_54 (by decide) ?_
        exact x_endZ (pc := 55) dX6_leavesEarlier_55 rfl (Or.inl rfl) h
      · have h := h.2 c18
        refine x_iconst (pc := 50) (v := 1) dX6_leavesEarlier_50 (by decide) ?_
        refine x_goto (pc := 51) (tgt := 55) dX6_leavesEarlier_51 (by decide) ?_
        exact x_endZ (pc := 55) dX6_leavesEarlier_55 rfl (Or.inr rfl) h
set_option maxRecDepth 100000 in
set_option maxHeartbeats 4000000 in
theorem t_X6_randomChanges_0 {l : Launch} {G : Gx} {P : Int32 → Mem → Prop} (hG : Mn G) (a1 : Int64) (a3 : Int32) (mem : Mem)
    (h : (a3 < 1 → (P (-2) mem)) ∧ (¬ a3 < 1 → ((a3 ≤ 60 → (∃ Q3 : Mem → Prop, CtV l M_X1_become G [.ref (gA G 30), .ref (gA G 1)] mem Q3 ∧ ∀ m6 : Mem, Q3 m6 → (XI l M_X6_randomChanges G P m6 34 [(0, .ref (gA G 0)), (3, .int a3), (4, .long a1), (6, .int 0), (7, .int 0)] []))) ∧ (¬ a3 ≤ 60 → (P (-2) mem))))) :
    XI l M_X6_randomChanges G P mem 0 [(0, .ref (gA G 0)), (1, .long a1), (3, .int a3)] [] := by
  refine x_iload_n (pc := 0) dX6_randomChanges_0 2 rfl rfl ?_
  refine x_iconst (pc := 1) (v := 1) dX6_randomChanges_1 (by decide) ?_
  refine x_icmp_lt (pc := 2) (tgt := 11) dX6_randomChanges_2 (by decide) (fun c1 => ?_) (fun c1 => ?_)
  · have h := h.1 c1
    refine x_bipush (pc := 11) (v := (-2)) dX6_randomChanges_11 (by decide) ?_
    exact x_endI (pc := 13) dX6_randomChanges_13 rfl h
  · have h := h.2 c1
    refine x_iload_n (pc := 5) dX6_randomChanges_5 2 rfl rfl ?_
    refine x_bipush (pc := 6) (v := 60) dX6_randomChanges_6 (by decide) ?_
    refine x_icmp_le (pc := 8) (tgt := 14) dX6_randomChanges_8 (by decide) (fun c2 => ?_) (fun c2 => ?_)
    · have h := h.1 c2
      refine x_aload_n (pc := 14) dX6_randomChanges_14 0 rfl rfl ?_
      refine x_get (pc := 15) 0 2 dX6_randomChanges_15 (mK hG (by decide)) (mc_0 hG _) rfl inX6 (by decide) tb_194 rfl rfl ?_
      refine x_aload_n (pc := 18) dX6_randomChanges_18 0 rfl rfl ?_
      refine x_get (pc := 19) 0 0 dX6_randomChanges_19 (mK hG (by decide)) (mc_0 hG _) rfl inX6 (by decide) tb_192 rfl rfl ?_
      obtain ⟨Q3, hc4, h⟩ := h
      refine x_callVV (pc := 22) 30 hc4 ok_X1_become dX6_randomChanges_22 tb_587 ⟨⟨rfl, rfl⟩, ⟨by decide, by decide⟩, by decide, by decide⟩ (Fo_K0 (Fo_of hG (by decide))) (Fo_c0 (Fo_of hG (by decide)) _) rfl (As := [.ref (gA G 1)]) rfl rfl (Nat.le_of_ble_eq_true rfl) (fun m6 q7 => ?_)
      have h := h m6 q7
      refine x_lload_n (pc := 25) dX6_randomChanges_25 1 rfl rfl ?_
      refine x_lstore (pc := 26) dX6_randomChanges_26 (by decide) rfl ?_
      refine x_iconst (pc := 28) (v := 0) dX6_randomChanges_28 (by decide) ?_
      refine x_istore (pc := 29) dX6_randomChanges_29 (by decide) rfl ?_
      refine x_iconst (pc := 31) (v := 0) dX6_randomChanges_31 (by decide) ?_
      refine x_istore (pc := 32) dX6_randomChanges_32 (by decide) rfl ?_
      exact x_sub [3, 5, 2, 1, 0] rfl h
    · have h := h.2 c2
      refine x_bipush (pc := 11) (v := (-2)) dX6_randomChanges_11 (by decide) ?_
      exact x_endI (pc := 13) dX6_randomChanges_13 rfl h
set_option maxRecDepth 100000 in
set_option maxHeartbeats 4000000 in
theorem t_X6_randomChanges_34 {l : Launch} {G : Gx} {P : Int32 → Mem → Prop} (hG : Mn G) (a3 : Int32) (a4 : Int64) (a6 : Int32) (a7 : Int32) (mem : Mem)
    (h : (a3 ≤ a7 → (P a6 mem)) ∧ (¬ a3 ≤ a7 → (∃ Q2 : Mem → Prop, CtV l M_X6_changeTrial G [.ref (gA G 0), .int ((((((a4 * 6364136223846793005) + 1442695040888963407).toUInt64 >>> ((33 : Int32).toInt64.toUInt64 &&& Int64.toUInt64 63)).toInt64) : Int64).toInt32)] mem Q2 ∧ ∀ m5 : Mem, Q2 m5 → (∃ Q7 : Mem → Prop, CtV l M_X5_measure G [.ref (gA G 45)] m5 Q7 ∧ ∀ m10 : Mem, Q7 m10 → (∃ Q12 : Int32 → Mem → Prop, CtI l M_X5_widthAround G [.ref (gA G 45), .int 0] m10 Q12 ∧ ∀ (r14 : Int32) (m15 : Mem), Q12 r14 m15 → (XI l M_X6_randomChanges G P m15 34 [(0, .ref (gA G 0)), (3, .int a3), (4, .long ((a4 * 6364136223846793005) + 1442695040888963407)), (6, .int (a6 + r14)), (7, .int (a7 + 1))] [])))))) :
    XI l M_X6_randomChanges G P mem 34 [(0, .ref (gA G 0)), (3, .int a3), (4, .long a4), (6, .int a6), (7, .int a7)] [] := by
  refine x_iload (pc := 34) dX6_randomChanges_34 4 rfl ?_
  refine x_iload_n (pc := 36) dX6_randomChanges_36 1 rfl rfl ?_
  refine x_icmp_ge (pc := 37) (tgt := 88) dX6_randomChanges_37 (by decide) (fun c1 => ?_) (fun c1 => ?_)
  · have h := h.1 c1
    refine x_iload (pc := 88) dX6_randomChanges_88 3 rfl ?_
    exact x_endI (pc := 90) dX6_randomChanges_90 rfl h
  · have h := h.2 c1
    refine x_lload (pc := 40) dX6_randomChanges_40 2 rfl ?_
    refine x_ldc2 (pc := 42) (v := 6364136223846793005) dX6_randomChanges_42 tb_613 ?_
    refine x_lmul (pc := 45) dX6_randomChanges_45 ?_
    refine x_ldc2 (pc := 46) (v := 1442695040888963407) dX6_randomChanges_46 tb_614 ?_
    refine x_ladd (pc := 49) dX6_randomChanges_49 ?_
    refine x_lstore (pc := 50) dX6_randomChanges_50 (by decide) rfl ?_
    refine x_aload_n (pc := 52) dX6_randomChanges_52 1 rfl rfl ?_
    refine x_lload (pc := 53) dX6_randomChanges_53 0 rfl ?_
    refine x_bipush (pc := 55) (v := 33) dX6_randomChanges_55 (by decide) ?_
    refine x_lushr (pc := 57) dX6_randomChanges_57 ?_
    refine x_l2i (pc := 58) dX6_randomChanges_58 ?_
    obtain ⟨Q2, hc3, h⟩ := h
    refine x_callVV (pc := 59) 0 hc3 ok_X6_changeTrial dX6_randomChanges_59 tb_615 ⟨⟨rfl, rfl⟩, ⟨by decide, by decide⟩, by decide, by decide⟩ (mK hG (by decide)) (mc_0 hG _) rfl (As := [.int ((((((a4 * 6364136223846793005) + 1442695040888963407).toUInt64 >>> ((33 : Int32).toInt64.toUInt64 &&& Int64.toUInt64 63)).toInt64) : Int64).toInt32)]) rfl rfl (Nat.le_of_ble_eq_true rfl) (fun m5 q6 => ?_)
    have h := h m5 q6
    refine x_aload_n (pc := 62) dX6_randomChanges_62 1 rfl rfl ?_
    refine x_get (pc := 63) 0 3 dX6_randomChanges_63 (mK hG (by decide)) (mc_0 hG _) rfl inX6 (by decide) tb_195 rfl rfl ?_
    obtain ⟨Q7, hc8, h⟩ := h
    refine x_callVV (pc := 66) 45 hc8 ok_X5_measure dX6_randomChanges_66 tb_281 ⟨⟨rfl, rfl⟩, ⟨by decide, by decide⟩, by decide, by decide⟩ (Sv_K0 ⟨Or.inr rfl, hG⟩) (Sv_c0 ⟨Or.inr rfl, hG⟩ _) rfl (As := []) rfl rfl (Nat.le_of_ble_eq_true rfl) (fun m10 q11 => ?_)
    have h := h m10 q11
    refine x_iload (pc := 69) dX6_randomChanges_69 3 rfl ?_
    refine x_aload_n (pc := 71) dX6_randomChanges_71 1 rfl rfl ?_
    refine x_get (pc := 72) 0 3 dX6_randomChanges_72 (mK hG (by decide)) (mc_0 hG _) rfl inX6 (by decide) tb_195 rfl rfl ?_
    refine x_iconst (pc := 75) (v := 0) dX6_randomChanges_75 (by decide) ?_
    obtain ⟨Q12, hc13, h⟩ := h
    refine x_callVI (pc := 76) 45 hc13 ok_X5_widthAround dX6_randomChanges_76 tb_390 ⟨⟨rfl, rfl⟩, ⟨by decide, by decide⟩, by decide, by decide⟩ (Sv_K0 ⟨Or.inr rfl, hG⟩) (Sv_c0 ⟨Or.inr rfl, hG⟩ _) rfl (As := [.int 0]) rfl rfl (Nat.le_of_ble_eq_true rfl) (fun r14 m15 q16 => ?_)
    have h := h r14 m15 q16
    refine x_iadd (pc := 79) dX6_randomChanges_79 ?_
    refine x_istore (pc := 80) dX6_randomChanges_80 (by decide) rfl ?_
    refine x_iinc (pc := 82) (v := (a7 + 1)) dX6_randomChanges_82 (k := 4) rfl rfl (by decide) rfl ?_
    refine x_goto (pc := 85) (tgt := 34) dX6_randomChanges_85 (by decide) ?_
    exact x_sub [3, 4, 2, 1, 0] rfl h
set_option maxRecDepth 100000 in
set_option maxHeartbeats 4000000 in
theorem t_X6_changeTrial_0 {l : Launch} {G : Gx} {P : Mem → Prop} (hG : Mn G) (a1 : Int32) (mem : Mem)
    (h : ∃ Q1 : Int32 → Mem → Prop, CtI l M_X1_vertices G [.ref (gA G 30)] mem Q1 ∧ ∀ (r3 : Int32) (m4 : Mem), Q1 r3 m4 → ((1 ≤ r3 → (¬ r3 = 0 ∧ (¬ r3 = 0 ∧ (XV l M_X6_changeTrial G P m4 38 [(0, .ref (gA G 0)), (3, .int (a1 - a1 / r3 * r3)), (4, .int ((a1 / 16) - (a1 / 16) / r3 * r3)), (5, .int (((a1 / 256) - (a1 / 256) / 99 * 99) + 1))] [])))) ∧ (¬ 1 ≤ r3 → (P m4)))) :
    XV l M_X6_changeTrial G P mem 0 [(0, .ref (gA G 0)), (1, .int a1)] [] := by
  refine x_aload_n (pc := 0) dX6_changeTrial_0 0 rfl rfl ?_
  refine x_get (pc := 1) 0 2 dX6_changeTrial_1 (mK hG (by decide)) (mc_0 hG _) rfl inX6 (by decide) tb_194 rfl rfl ?_
  obtain ⟨Q1, hc2, h⟩ := h
  refine x_callVI (pc := 4) 30 hc2 ok_X1_vertices dX6_changeTrial_4 tb_619 ⟨⟨rfl, rfl⟩, ⟨by decide, by decide⟩, by decide, by decide⟩ (Fo_K0 (Fo_of hG (by decide))) (Fo_c0 (Fo_of hG (by decide)) _) rfl (As := []) rfl rfl (Nat.le_of_ble_eq_true rfl) (fun r3 m4 q5 => ?_)
  have h := h r3 m4 q5
  refine x_istore_n (pc := 7) dX6_changeTrial_7 rfl (by decide) rfl ?_
  refine x_iload_n (pc := 8) dX6_changeTrial_8 0 rfl rfl ?_
  refine x_iconst (pc := 9) (v := 1) dX6_changeTrial_9 (by decide) ?_
  refine x_icmp_ge (pc := 10) (tgt := 14) dX6_changeTrial_10 (by decide) (fun c6 => ?_) (fun c6 => ?_)
  · have h := h.1 c6
    refine x_iload_n (pc := 14) dX6_changeTrial_14 2 rfl rfl ?_
    refine x_iload_n (pc := 15) dX6_changeTrial_15 0 rfl rfl ?_
    refine x_irem (pc := 16) dX6_changeTrial_16 h.1 ?_
    have h := h.2
    refine x_istore_n (pc := 17) dX6_changeTrial_17 rfl (by decide) rfl ?_
    refine x_iload_n (pc := 18) dX6_changeTrial_18 3 rfl rfl ?_
    refine x_bipush (pc := 19) (v := 16) dX6_changeTrial_19 (by decide) ?_
    refine x_idiv (pc := 21) dX6_changeTrial_21 (by decide) ?_
    refine x_iload_n (pc := 22) dX6_changeTrial_22 1 rfl rfl ?_
    refine x_irem (pc := 23) dX6_changeTrial_23 h.1 ?_
    have h := h.2
    refine x_istore (pc := 24) dX6_changeTrial_24 (by decide) rfl ?_
    refine x_iload_n (pc := 26) dX6_changeTrial_26 4 rfl rfl ?_
    refine x_sipush (pc := 27) (v := 256) dX6_changeTrial_27 (by decide) ?_
    refine x_idiv (pc := 30) dX6_changeTrial_30 (by decide) ?_
    refine x_bipush (pc := 31) (v := 99) dX6_changeTrial_31 (by decide) ?_
    refine x_irem (pc := 33) dX6_changeTrial_33 (by decide) ?_
    refine x_iconst (pc := 34) (v := 1) dX6_changeTrial_34 (by decide) ?_
    refine x_iadd (pc := 35) dX6_changeTrial_35 ?_
    refine x_istore (pc := 36) dX6_changeTrial_36 (by decide) rfl ?_
    exact x_sub [4, 2, 1, 0] rfl h
  · have h := h.2 c6
    exact x_endV (pc := 13) dX6_changeTrial_13 rfl h
set_option maxRecDepth 100000 in
set_option maxHeartbeats 4000000 in
theorem t_X6_changeTrial_38 {l : Launch} {G : Gx} {P : Mem → Prop} (hG : Mn G) (a3 : Int32) (a4 : Int32) (a5 : Int32) (mem : Mem)
    (h : ∃ Q1 : Int32 → Mem → Prop, CtI l M_X1_hasEdge G [.ref (gA G 30), .int a3, .int a4] mem Q1 ∧ ∀ (r3 : Int32) (m4 : Mem), Q1 r3 m4 → ((r3 = 0 → (∃ Q7 : Int32 → Mem → Prop, CtI l M_X6_linkError G [.ref (gA G 30), .ref (gA G 45), .int a3, .int a4, .int a5] m4 Q7 ∧ ∀ (r9 : Int32) (m10 : Mem), Q7 r9 m10 → ((¬ r9 = 0 → (P m10)) ∧ (r9 = 0 → (∃ Q13 : Mem → Prop, CtV l M_X1_putEdge G [.ref (gA G 30), .int a3, .int a4, .int a5] m10 Q13 ∧ ∀ m16 : Mem, Q13 m16 → (P m16)))))) ∧ (¬ r3 = 0 → ((¬ (a5 - a5 / 2 * 2) = 0 → (∃ Q19 : Mem → Prop, CtV l M_X1_putEdge G [.ref (gA G 30), .int a3, .int a4, .int a5] m4 Q19 ∧ ∀ m22 : Mem, Q19 m22 → (P m22))) ∧ ((a5 - a5 / 2 * 2) = 0 → (∃ Q24 : Mem → Prop, CtV l M_X1_putEdge G [.ref (gA G 30), .int a3, .int a4, .int 0] m4 Q24 ∧ ∀ m27 : Mem, Q24 m27 → (P m27))))))) :
    XV l M_X6_changeTrial G P mem 38 [(0, .ref (gA G 0)), (3, .int a3), (4, .int a4), (5, .int a5)] [] := by
  refine x_aload_n (pc := 38) dX6_changeTrial_38 0 rfl rfl ?_
  refine x_get (pc := 39) 0 2 dX6_changeTrial_39 (mK hG (by decide)) (mc_0 hG _) rfl inX6 (by decide) tb_194 rfl rfl ?_
  refine x_iload_n (pc := 42) dX6_changeTrial_42 1 rfl rfl ?_
  refine x_iload (pc := 43) dX6_changeTrial_43 2 rfl ?_
  obtain ⟨Q1, hc2, h⟩ := h
  refine x_callVI (pc := 45) 30 hc2 ok_X1_hasEdge dX6_changeTrial_45 tb_267 ⟨⟨rfl, rfl⟩, ⟨by decide, by decide⟩, by decide, by decide⟩ (Fo_K0 (Fo_of hG (by decide))) (Fo_c0 (Fo_of hG (by decide)) _) rfl (As := [.int a3, .int a4]) rfl rfl (Nat.le_of_ble_eq_true rfl) (fun r3 m4 q5 => ?_)
  have h := h r3 m4 q5
  refine x_if_eq (pc := 48) (tgt := 77) dX6_changeTrial_48 (by decide) (fun c6 => ?_) (fun c6 => ?_)
  · have h := h.1 c6
    refine x_aload_n (pc := 77) dX6_changeTrial_77 0 rfl rfl ?_
    refine x_get (pc := 78) 0 2 dX6_changeTrial_78 (mK hG (by decide)) (mc_0 hG _) rfl inX6 (by decide) tb_194 rfl rfl ?_
    refine x_aload_n (pc := 81) dX6_changeTrial_81 0 rfl rfl ?_
    refine x_get (pc := 82) 0 3 dX6_changeTrial_82 (mK hG (by decide)) (mc_0 hG _) rfl inX6 (by decide) tb_195 rfl rfl ?_
    refine x_iload_n (pc := 85) dX6_changeTrial_85 1 rfl rfl ?_
    refine x_iload (pc := 86) dX6_changeTrial_86 2 rfl ?_
    refine x_iload (pc := 88) dX6_changeTrial_88 3 rfl ?_
    obtain ⟨Q7, hc8, h⟩ := h
    refine x_callSI (pc := 90) hc8 ok_X6_linkError dX6_changeTrial_90 tb_312 ⟨⟨rfl, rfl⟩, ⟨by decide, by decide⟩, by decide, by decide⟩ rfl rfl (Nat.le_of_ble_eq_true rfl) (fun r9 m10 q11 => ?_)
    have h := h r9 m10 q11
    refine x_if_ne (pc := 93) (tgt := 108) dX6_changeTrial_93 (by decide) (fun c12 => ?_) (fun c12 => ?_)
    · have h := h.1 c12
      exact x_endV (pc := 108) dX6_changeTrial_108 rfl h
    · have h := h.2 c12
      refine x_aload_n (pc := 96) dX6_changeTrial_96 0 rfl rfl ?_
      refine x_get (pc := 97) 0 2 dX6_changeTrial_97 (mK hG (by decide)) (mc_0 hG _) rfl inX6 (by decide) tb_194 rfl rfl ?_
      refine x_iload_n (pc := 100) dX6_changeTrial_100 1 rfl rfl ?_
      refine x_iload (pc := 101) dX6_changeTrial_101 2 rfl ?_
      refine x_iload (pc := 103) dX6_changeTrial_103 3 rfl ?_
      obtain ⟨Q13, hc14, h⟩ := h
      refine x_callVV (pc := 105) 30 hc14 ok_X1_putEdge dX6_changeTrial_105 tb_328 ⟨⟨rfl, rfl⟩, ⟨by decide, by decide⟩, by decide, by decide⟩ (Fo_K0 (Fo_of hG (by decide))) (Fo_c0 (Fo_of hG (by decide)) _) rfl (As := [.int a3, .int a4, .int a5]) rfl rfl (Nat.le_of_ble_eq_true rfl) (fun m16 q17 => ?_)
      have h := h m16 q17
      exact x_endV (pc := 108) dX6_changeTrial_108 rfl h
  · have h := h.2 c6
    refine x_aload_n (pc := 51) dX6_changeTrial_51 0 rfl rfl ?_
    refine x_get (pc := 52) 0 2 dX6_changeTrial_52 (mK hG (by decide)) (mc_0 hG _) rfl inX6 (by decide) tb_194 rfl rfl ?_
    refine x_iload_n (pc := 55) dX6_changeTrial_55 1 rfl rfl ?_
    refine x_iload (pc := 56) dX6_changeTrial_56 2 rfl ?_
    refine x_iload (pc := 58) dX6_changeTrial_58 3 rfl ?_
    refine x_iconst (pc := 60) (v := 2) dX6_changeTrial_60 (by decide) ?_
    refine x_irem (pc := 61) dX6_changeTrial_61 (by decide) ?_
    refine x_if_ne (pc := 62) (tgt := 69) dX6_changeTrial_62 (by decide) (fun c18 => ?_) (fun c18 => ?_)
    · have h := h.1 c18
      refine x_iload (pc := 69) dX6_changeTrial_69 3 rfl ?_
      obtain ⟨Q19, hc20, h⟩ := h
      refine x_callVV (pc := 71) 30 hc20 ok_X1_putEdge dX6_changeTrial_71 tb_328 ⟨⟨rfl, rfl⟩, ⟨by decide, by decide⟩, by decide, by decide⟩ (Fo_K0 (Fo_of hG (by decide))) (Fo_c0 (Fo_of hG (by decide)) _) rfl (As := [.int a3, .int a4, .int a5]) rfl rfl (Nat.le_of_ble_eq_true rfl) (fun m22 q23 => ?_)
      have h := h m22 q23
      refine x_goto (pc := 74) (tgt := 108) dX6_changeTrial_74 (by decide) ?_
      exact x_endV (pc := 108) dX6_changeTrial_108 rfl h
    · have h := h.2 c18
      refine x_iconst (pc := 65) (v := 0) dX6_changeTrial_65 (by decide) ?_
      refine x_goto (pc := 66) (tgt := 71) dX6_changeTrial_66 (by decide) ?_
      obtain ⟨Q24, hc25, h⟩ := h
      refine x_callVV (pc := 71) 30 hc25 ok_X1_putEdge dX6_changeTrial_71 tb_328 ⟨⟨rfl, rfl⟩, ⟨by decide, by decide⟩, by decide, by decide⟩ (Fo_K0 (Fo_of hG (by decide))) (Fo_c0 (Fo_of hG (by decide)) _) rfl (As := [.int a3, .int a4, .int 0]) rfl rfl (Nat.le_of_ble_eq_true rfl) (fun m27 q28 => ?_)
      have h := h m27 q28
      refine x_goto (pc := 74) (tgt := 108) dX6_changeTrial_74 (by decide) ?_
      exact x_endV (pc := 108) dX6_changeTrial_108 rfl h
set_option maxRecDepth 100000 in
set_option maxHeartbeats 4000000 in
theorem t_X6_save_0 {l : Launch} {G : Gx} {P : Int32 → Mem → Prop} (hG : Mn G) (a1 : Int32) (mem : Mem)
    (h : (a1 < 0 → (P (-1) mem)) ∧ (¬ a1 < 0 → ((a1 < 2 → (vp_in a1 2 ∧ (∃ Q4 : Mem → Prop, CtV l M_X1_become G [.ref (gA G (296 + 15 * a1.toNatClampNeg)), .ref (gA G 1)] mem Q4 ∧ ∀ m7 : Mem, Q4 m7 → (vp_in a1 2 ∧ (∃ Q10 : Int32 → Mem → Prop, CtI l M_X1_edgeCount G [.ref (gA G 1)] (wr m7 326 a1.toNatClampNeg 1) Q10 ∧ ∀ (r12 : Int32) (m13 : Mem), Q10 r12 m13 → (P r12 m13)))))) ∧ (¬ a1 < 2 → (P (-1) mem))))) :
    XI l M_X6_save G P mem 0 [(0, .ref (gA G 0)), (1, .int a1)] [] := by
  refine x_iload_n (pc := 0) dX6_save_0 1 rfl rfl ?_
  refine x_if_lt (pc := 1) (tgt := 9) dX6_save_1 (by decide) (fun c1 => ?_) (fun c1 => ?_)
  · have h := h.1 c1
    refine x_iconst (pc := 9) (v := (-1)) dX6_save_9 (by decide) ?_
    exact x_endI (pc := 10) dX6_save_10 rfl h
  · have h := h.2 c1
    refine x_iload_n (pc := 4) dX6_save_4 1 rfl rfl ?_
    refine x_iconst (pc := 5) (v := 2) dX6_save_5 (by decide) ?_
    refine x_icmp_lt (pc := 6) (tgt := 11) dX6_save_6 (by decide) (fun c2 => ?_) (fun c2 => ?_)
    · have h := h.1 c2
      refine x_aload_n (pc := 11) dX6_save_11 0 rfl rfl ?_
      refine x_get (pc := 12) 0 8 dX6_save_12 (mK hG (by decide)) (mc_0 hG _) rfl inX6 (by decide) tb_200 rfl rfl ?_
      refine x_iload_n (pc := 15) dX6_save_15 1 rfl rfl ?_
      have n3 := h.1
      refine x_aaldF (pc := 16) 295 dX6_save_16 (mK hG (by decide)) (mc_295 hG _) n3 (if_pos (vp_lt n3)) ?_
      have h := h.2
      refine x_aload_n (pc := 17) dX6_save_17 0 rfl rfl ?_
      refine x_get (pc := 18) 0 0 dX6_save_18 (mK hG (by decide)) (mc_0 hG _) rfl inX6 (by decide) tb_192 rfl rfl ?_
      obtain ⟨Q4, hc5, h⟩ := h
      refine x_callVV (pc := 21) (296 + 15 * a1.toNatClampNeg) hc5 ok_X1_become dX6_save_21 tb_587 ⟨⟨rfl, rfl⟩, ⟨by decide, by decide⟩, by decide, by decide⟩ (Fo_K0 (Fo_slot hG (vp_lt n3))) (Fo_c0 (Fo_slot hG (vp_lt n3)) _) rfl (As := [.ref (gA G 1)]) rfl rfl (Nat.le_of_ble_eq_true rfl) (fun m7 q8 => ?_)
      have h := h m7 q8
      refine x_aload_n (pc := 24) dX6_save_24 0 rfl rfl ?_
      refine x_get (pc := 25) 0 9 dX6_save_25 (mK hG (by decide)) (mc_0 hG _) rfl inX6 (by decide) tb_201 rfl rfl ?_
      refine x_iload_n (pc := 28) dX6_save_28 1 rfl rfl ?_
      refine x_iconst (pc := 29) (v := 1) dX6_save_29 (by decide) ?_
      have n9 := h.1
      have h := h.2
      refine x_zast (pc := 30) 326 dX6_save_30 (mK hG (by decide)) (mc_326 hG) n9 (Or.inr rfl) ?_
      refine x_aload_n (pc := 31) dX6_save_31 0 rfl rfl ?_
      refine x_get (pc := 32) 0 0 dX6_save_32 (mK hG (by decide)) (mc_0 hG _) rfl inX6 (by decide) tb_192 rfl rfl ?_
      obtain ⟨Q10, hc11, h⟩ := h
      refine x_callVI (pc := 35) 1 hc11 ok_X1_edgeCount dX6_save_35 tb_332 ⟨⟨rfl, rfl⟩, ⟨by decide, by decide⟩, by decide, by decide⟩ (Fo_K0 (Fo_of hG (by decide))) (Fo_c0 (Fo_of hG (by decide)) _) rfl (As := []) rfl rfl (Nat.le_of_ble_eq_true rfl) (fun r12 m13 q14 => ?_)
      have h := h r12 m13 q14
      exact x_endI (pc := 38) dX6_save_38 rfl h
    · have h := h.2 c2
      refine x_iconst (pc := 9) (v := (-1)) dX6_save_9 (by decide) ?_
      exact x_endI (pc := 10) dX6_save_10 rfl h
set_option maxRecDepth 100000 in
set_option maxHeartbeats 4000000 in
theorem t_X6_restore_0 {l : Launch} {G : Gx} {P : Int32 → Mem → Prop} (hG : Mn G) (a1 : Int32) (mem : Mem)
    (h : (a1 < 0 → (P (-1) mem)) ∧ (¬ a1 < 0 → ((a1 < 2 → (vp_in a1 2 ∧ ((¬ (mem 326 a1.toNatClampNeg) = 0 → (vp_in a1 2 ∧ (∃ Q6 : Mem → Prop, CtV l M_X1_become G [.ref (gA G 1), .ref (gA G (296 + 15 * a1.toNatClampNeg))] mem Q6 ∧ ∀ m9 : Mem, Q6 m9 → (∃ Q11 : Mem → Prop, CtV l M_X2_forget G [.ref (gA G 79)] m9 Q11 ∧ ∀ m14 : Mem, Q11 m14 → (∃ Q16 : Int32 → Mem → Prop, CtI l M_X1_edgeCount G [.ref (gA G 1)] m14 Q16 ∧ ∀ (r18 : Int32) (m19 : Mem), Q16 r18 m19 → (P r18 m19)))))) ∧ ((mem 326 a1.toNatClampNeg) = 0 → (P (-3) mem))))) ∧ (¬ a1 < 2 → (P (-1) mem))))) :
    XI l M_X6_restore G P mem 0 [(0, .ref (gA G 0)), (1, .int a1)] [] := by
  refine x_iload_n (pc := 0) dX6_restore_0 1 rfl rfl ?_
  refine x_if_lt (pc := 1) (tgt := 9) dX6_restore_1 (by decide) (fun c1 => ?_) (fun c1 => ?_)
  · have h := h.1 c1
    refine x_iconst (pc := 9) (v := (-1)) dX6_restore_9 (by decide) ?_
    exact x_endI (pc := 10) dX6_restore_10 rfl h
  · have h := h.2 c1
    refine x_iload_n (pc := 4) dX6_restore_4 1 rfl rfl ?_
    refine x_iconst (pc := 5) (v := 2) dX6_restore_5 (by decide) ?_
    refine x_icmp_lt (pc := 6) (tgt := 11) dX6_restore_6 (by decide) (fun c2 => ?_) (fun c2 => ?_)
    · have h := h.1 c2
      refine x_aload_n (pc := 11) dX6_restore_11 0 rfl rfl ?_
      refine x_get (pc := 12) 0 9 dX6_restore_12 (mK hG (by decide)) (mc_0 hG _) rfl inX6 (by decide) tb_201 rfl rfl ?_
      refine x_iload_n (pc := 15) dX6_restore_15 1 rfl rfl ?_
      have n3 := h.1
      refine x_zald (pc := 16) 326 dX6_restore_16 (mK hG (by decide)) (mc_326 hG _) n3 ?_
      have h := h.2
      refine x_if_ne (pc := 17) (tgt := 23) dX6_restore_17 (by decide) (fun c4 => ?_) (fun c4 => ?_)
      · have h := h.1 c4
        refine x_aload_n (pc := 23) dX6_restore_23 0 rfl rfl ?_
        refine x_get (pc := 24) 0 0 dX6_restore_24 (mK hG (by decide)) (mc_0 hG _) rfl inX6 (by decide) tb_192 rfl rfl ?_
        refine x_aload_n (pc := 27) dX6_restore_27 0 rfl rfl ?_
        refine x_get (pc := 28) 0 8 dX6_restore_28 (mK hG (by decide)) (mc_0 hG _) rfl inX6 (by decide) tb_200 rfl rfl ?_
        refine x_iload_n (pc := 31) dX6_restore_31 1 rfl rfl ?_
        have n5 := h.1
        refine x_aaldF (pc := 32) 295 dX6_restore_32 (mK hG (by decide)) (mc_295 hG _) n5 (if_pos (vp_lt n5)) ?_
        have h := h.2
        obtain ⟨Q6, hc7, h⟩ := h
        refine x_callVV (pc := 33) 1 hc7 ok_X1_become dX6_restore_33 tb_587 ⟨⟨rfl, rfl⟩, ⟨by decide, by decide⟩, by decide, by decide⟩ (Fo_K0 (Fo_of hG (by decide))) (Fo_c0 (Fo_of hG (by decide)) _) rfl (As := [.ref (gA G (296 + 15 * a1.toNatClampNeg))]) rfl rfl (Nat.le_of_ble_eq_true rfl) (fun m9 q10 => ?_)
        have h := h m9 q10
        refine x_aload_n (pc := 36) dX6_restore_36 0 rfl rfl ?_
        refine x_get (pc := 37) 0 6 dX6_restore_37 (mK hG (by decide)) (mc_0 hG _) rfl inX6 (by decide) tb_198 rfl rfl ?_
        obtain ⟨Q11, hc12, h⟩ := h
        refine x_callVV (pc := 40) 79 hc12 ok_X2_forget dX6_restore_40 tb_628 ⟨⟨rfl, rfl⟩, ⟨by decide, by decide⟩, by decide, by decide⟩ (mK hG (by decide)) (mc_79 hG _) rfl (As := []) rfl rfl (Nat.le_of_ble_eq_true rfl) (fun m14 q15 => ?_)
        have h := h m14 q15
        refine x_aload_n (pc := 43) dX6_restore_43 0 rfl rfl ?_
        refine x_get (pc := 44) 0 0 dX6_restore_44 (mK hG (by decide)) (mc_0 hG _) rfl inX6 (by decide) tb_192 rfl rfl ?_
        obtain ⟨Q16, hc17, h⟩ := h
        refine x_callVI (pc := 47) 1 hc17 ok_X1_edgeCount dX6_restore_47 tb_332 ⟨⟨rfl, rfl⟩, ⟨by decide, by decide⟩, by decide, by decide⟩ (Fo_K0 (Fo_of hG (by decide))) (Fo_c0 (Fo_of hG (by decide)) _) rfl (As := []) rfl rfl (Nat.le_of_ble_eq_true rfl) (fun r18 m19 q20 => ?_)
        have h := h r18 m19 q20
        exact x_endI (pc := 50) dX6_restore_50 rfl h
      · have h := h.2 c4
        refine x_bipush (pc := 20) (v := (-3)) dX6_restore_20 (by decide) ?_
        exact x_endI (pc := 22) dX6_restore_22 rfl h
    · have h := h.2 c2
      refine x_iconst (pc := 9) (v := (-1)) dX6_restore_9 (by decide) ?_
      exact x_endI (pc := 10) dX6_restore_10 rfl h
