set_option maxRecDepth 100000 in
set_option maxHeartbeats 4000000 in
theorem t_L_load_0 {l : Launch} {q : E5} {G : Gx} {P : Int32 → Mem → Prop} (hG : Mn G) (a1 : Int32) (a2 : Int32) (mem : Mem)
    (h : ∃ Q1 : Int32 → Mem → Prop, CtI l M_X6_clearText G [.ref (gA G 0)] mem Q1 ∧ ∀ (r3 : Int32) (m4 : Mem), Q1 r3 m4 → (∃ Q6 : Int32 → Mem → Prop, CtI l M_X6_append G [.ref (gA G 0), .int 70] m4 Q6 ∧ ∀ (r8 : Int32) (m9 : Mem), Q6 r8 m9 → (∃ Q11 : Int32 → Mem → Prop, CtI l M_L_two G [.ref (gA G 0), .int (1 + (a1 - a1 / 12 * 12))] m9 Q11 ∧ ∀ (r13 : Int32) (m14 : Mem), Q11 r13 m14 → (XJ l M_L_load q G P m14 32 [(0, .ref (gA G 0)), (1, .int a1), (2, .int a2), (3, .int (1 + (a1 - a1 / 12 * 12))), (4, .int ((r3 + r8) + r13)), (5, .int a2), (6, .int 0)] [])))) :
    XJ l M_L_load q G P mem 0 [(0, .ref (gA G 0)), (1, .int a1), (2, .int a2)] [] := by
  refine x_iconst (pc := 0) (v := 1) dL_load_0 (by decide) ?_
  refine x_iload_n (pc := 1) dL_load_1 1 rfl rfl ?_
  refine x_bipush (pc := 2) (v := 12) dL_load_2 (by decide) ?_
  refine x_irem (pc := 4) dL_load_4 (by decide) ?_
  refine x_iadd (pc := 5) dL_load_5 ?_
  refine x_istore_n (pc := 6) dL_load_6 rfl (by decide) rfl ?_
  refine x_aload_n (pc := 7) dL_load_7 1 rfl rfl ?_
  obtain ⟨Q1, hc2, h⟩ := h
  refine x_callVI (pc := 8) 0 hc2 ok_X6_clearText dL_load_8 tb_638 ⟨⟨rfl, rfl⟩, ⟨by decide, by decide⟩, by decide, by decide⟩ (mK hG (by decide)) (mc_0 hG _) rfl (As := []) rfl rfl (Nat.le_of_ble_eq_true rfl) (fun r3 m4 q5 => ?_)
  have h := h r3 m4 q5
  refine x_aload_n (pc := 11) dL_load_11 1 rfl rfl ?_
  refine x_bipush (pc := 12) (v := 70) dL_load_12 (by decide) ?_
  obtain ⟨Q6, hc7, h⟩ := h
  refine x_callVI (pc := 14) 0 hc7 ok_X6_append dL_load_14 tb_247 ⟨⟨rfl, rfl⟩, ⟨by decide, by decide⟩, by decide, by decide⟩ (mK hG (by decide)) (mc_0 hG _) rfl (As := [.int 70]) rfl rfl (Nat.le_of_ble_eq_true rfl) (fun r8 m9 q10 => ?_)
  have h := h r8 m9 q10
  refine x_iadd (pc := 17) dL_load_17 ?_
  refine x_aload_n (pc := 18) dL_load_18 1 rfl rfl ?_
  refine x_iload_n (pc := 19) dL_load_19 0 rfl rfl ?_
  obtain ⟨Q11, hc12, h⟩ := h
  refine x_callSI (pc := 20) hc12 ok_L_two dL_load_20 tb_646 ⟨⟨rfl, rfl⟩, ⟨by decide, by decide⟩, by decide, by decide⟩ rfl rfl (Nat.le_of_ble_eq_true rfl) (fun r13 m14 q15 => ?_)
  have h := h r13 m14 q15
  refine x_iadd (pc := 23) dL_load_23 ?_
  refine x_istore (pc := 24) dL_load_24 (by decide) rfl ?_
  refine x_iload_n (pc := 26) dL_load_26 4 rfl rfl ?_
  refine x_istore (pc := 27) dL_load_27 (by decide) rfl ?_
  refine x_iconst (pc := 29) (v := 0) dL_load_29 (by decide) ?_
  refine x_istore (pc := 30) dL_load_30 (by decide) rfl ?_
  exact x_sub [4, 5, 6, 3, 2, 1, 0] rfl h
set_option maxRecDepth 100000 in
set_option maxHeartbeats 4000000 in
theorem t_L_load_32 {l : Launch} {q : E5} {G : Gx} {P : Int32 → Mem → Prop} (hG : Mn G) (a1 : Int32) (a2 : Int32) (a3 : Int32) (a4 : Int32) (a5 : Int32) (a6 : Int32) (mem : Mem)
    (h : (a3 ≤ a6 → (XJ l M_L_load q G P mem 87 [(0, .ref (gA G 0)), (1, .int a1), (2, .int a2), (3, .int a3), (4, .int a4), (5, .int a5), (6, .int 1)] [])) ∧ (¬ a3 ≤ a6 → ((¬ (a5 - a5 / 3 * 3) = 0 → (∃ Q3 : Int32 → Mem → Prop, CtI l M_L_two G [.ref (gA G 0), .int (a5 - a5 / 100 * 100)] mem Q3 ∧ ∀ (r5 : Int32) (m6 : Mem), Q3 r5 m6 → (XJ l M_L_load q G P m6 63 [(0, .ref (gA G 0)), (1, .int a1), (2, .int a2), (3, .int a3), (4, .int (a4 + r5)), (5, .int a5), (6, .int a6)] []))) ∧ ((a5 - a5 / 3 * 3) = 0 → (∃ Q8 : Int32 → Mem → Prop, CtI l M_L_two G [.ref (gA G 0), .int 0] mem Q8 ∧ ∀ (r10 : Int32) (m11 : Mem), Q8 r10 m11 → (XJ l M_L_load q G P m11 63 [(0, .ref (gA G 0)), (1, .int a1), (2, .int a2), (3, .int a3), (4, .int (a4 + r10)), (5, .int a5), (6, .int a6)] [])))))) :
    XJ l M_L_load q G P mem 32 [(0, .ref (gA G 0)), (1, .int a1), (2, .int a2), (3, .int a3), (4, .int a4), (5, .int a5), (6, .int a6)] [] := by
  refine x_iload (pc := 32) dL_load_32 6 rfl ?_
  refine x_iload_n (pc := 34) dL_load_34 3 rfl rfl ?_
  refine x_icmp_ge (pc := 35) (tgt := 84) dL_load_35 (by decide) (fun c1 => ?_) (fun c1 => ?_)
  · have h := h.1 c1
    refine x_iconst (pc := 84) (v := 1) dL_load_84 (by decide) ?_
    refine x_istore (pc := 85) dL_load_85 (by decide) rfl ?_
    exact x_sub [1, 2, 3, 4, 5, 6, 0] rfl h
  · have h := h.2 c1
    refine x_iload (pc := 38) dL_load_38 4 rfl ?_
    refine x_aload_n (pc := 40) dL_load_40 0 rfl rfl ?_
    refine x_iload (pc := 41) dL_load_41 5 rfl ?_
    refine x_iconst (pc := 43) (v := 3) dL_load_43 (by decide) ?_
    refine x_irem (pc := 44) dL_load_44 (by decide) ?_
    refine x_if_ne (pc := 45) (tgt := 52) dL_load_45 (by decide) (fun c2 => ?_) (fun c2 => ?_)
    · have h := h.1 c2
      refine x_iload (pc := 52) dL_load_52 5 rfl ?_
      refine x_bipush (pc := 54) (v := 100) dL_load_54 (by decide) ?_
      refine x_irem (pc := 56) dL_load_56 (by decide) ?_
      obtain ⟨Q3, hc4, h⟩ := h
      refine x_callSI (pc := 57) hc4 ok_L_two dL_load_57 tb_646 ⟨⟨rfl, rfl⟩, ⟨by decide, by decide⟩, by decide, by decide⟩ rfl rfl (Nat.le_of_ble_eq_true rfl) (fun r5 m6 q7 => ?_)
      have h := h r5 m6 q7
      refine x_iadd (pc := 60) dL_load_60 ?_
      refine x_istore (pc := 61) dL_load_61 (by decide) rfl ?_
      exact x_sub [1, 2, 3, 4, 0, 5, 6] rfl h
    · have h := h.2 c2
      refine x_iconst (pc := 48) (v := 0) dL_load_48 (by decide) ?_
      refine x_goto (pc := 49) (tgt := 57) dL_load_49 (by decide) ?_
      obtain ⟨Q8, hc9, h⟩ := h
      refine x_callSI (pc := 57) hc9 ok_L_two dL_load_57 tb_646 ⟨⟨rfl, rfl⟩, ⟨by decide, by decide⟩, by decide, by decide⟩ rfl rfl (Nat.le_of_ble_eq_true rfl) (fun r10 m11 q12 => ?_)
      have h := h r10 m11 q12
      refine x_iadd (pc := 60) dL_load_60 ?_
      refine x_istore (pc := 61) dL_load_61 (by decide) rfl ?_
      exact x_sub [1, 2, 3, 4, 0, 5, 6] rfl h
set_option maxRecDepth 100000 in
set_option maxHeartbeats 4000000 in
theorem t_L_load_63 {l : Launch} {q : E5} {G : Gx} {P : Int32 → Mem → Prop} (hG : Mn G) (a1 : Int32) (a2 : Int32) (a3 : Int32) (a4 : Int32) (a5 : Int32) (a6 : Int32) (mem : Mem)
    (h : XJ l M_L_load q G P mem 32 [(0, .ref (gA G 0)), (1, .int a1), (2, .int a2), (3, .int a3), (4, .int a4), (5, .int ((a5 / 3) + (7919 * (a6 + 1)))), (6, .int (a6 + 1))] []) :
    XJ l M_L_load q G P mem 63 [(0, .ref (gA G 0)), (1, .int a1), (2, .int a2), (3, .int a3), (4, .int a4), (5, .int a5), (6, .int a6)] [] := by
  refine x_iload (pc := 63) dL_load_63 5 rfl ?_
  refine x_iconst (pc := 65) (v := 3) dL_load_65 (by decide) ?_
  refine x_idiv (pc := 66) dL_load_66 (by decide) ?_
  refine x_sipush (pc := 67) (v := 7919) dL_load_67 (by decide) ?_
  refine x_iload (pc := 70) dL_load_70 6 rfl ?_
  refine x_iconst (pc := 72) (v := 1) dL_load_72 (by decide) ?_
  refine x_iadd (pc := 73) dL_load_73 ?_
  refine x_imul (pc := 74) dL_load_74 ?_
  refine x_iadd (pc := 75) dL_load_75 ?_
  refine x_istore (pc := 76) dL_load_76 (by decide) rfl ?_
  refine x_iinc (pc := 78) (v := (a6 + 1)) dL_load_78 (k := 6) rfl rfl (by decide) rfl ?_
  refine x_goto (pc := 81) (tgt := 32) dL_load_81 (by decide) ?_
  exact x_sub [2, 3, 4, 5, 6, 1, 0] rfl h
set_option maxRecDepth 100000 in
set_option maxHeartbeats 4000000 in
theorem t_L_load_87 {l : Launch} {q : E5} {G : Gx} {P : Int32 → Mem → Prop} (hG : Mn G) (a1 : Int32) (a2 : Int32) (a3 : Int32) (a4 : Int32) (a5 : Int32) (a6 : Int32) (mem : Mem)
    (h : (a3 ≤ a6 → ((¬ (a1 - a1 / 41 * 41) = 0 → (XJ l M_L_load q G P mem 248 [(0, .ref (gA G 0)), (4, .int (a4 + 0))] [])) ∧ ((a1 - a1 / 41 * 41) = 0 → (∃ k3 : Nat, k3 < 4 ∧ (a2 - a2 / 4 * 4) = nI k3 ∧ (∃ Q6 : Int32 → Mem → Prop, CtI l M_X6_append G [.ref (gA G 0), .int (chQ k3)] mem Q6 ∧ ∀ (r8 : Int32) (m9 : Mem), Q6 r8 m9 → (XJ l M_L_load q G P m9 248 [(0, .ref (gA G 0)), (4, .int (a4 + r8))] [])))))) ∧ (¬ a3 ≤ a6 → (((a5 - a5 / 6 * 6) ≤ 0 → (XJ l M_L_load q G P mem 200 [(0, .ref (gA G 0)), (1, .int a1), (2, .int a2), (3, .int a3), (4, .int a4), (5, .int a5), (6, .int a6)] [])) ∧ (¬ (a5 - a5 / 6 * 6) ≤ 0 → ((¬ ((a5 / 6) - (a5 / 6) / 4 * 4) = 0 → (¬ a6 = 0 ∧ (XJ l M_L_load q G P mem 128 [(0, .ref (gA G 0)), (1, .int a1), (2, .int a2), (3, .int a3), (4, .int a4), (5, .int a5), (6, .int a6), (7, .int ((a5 / 24) - (a5 / 24) / a6 * a6))] []))) ∧ (((a5 / 6) - (a5 / 6) / 4 * 4) = 0 → (XJ l M_L_load q G P mem 128 [(0, .ref (gA G 0)), (1, .int a1), (2, .int a2), (3, .int a3), (4, .int a4), (5, .int a5), (6, .int a6), (7, .int (a6 - 1))] []))))))) :
    XJ l M_L_load q G P mem 87 [(0, .ref (gA G 0)), (1, .int a1), (2, .int a2), (3, .int a3), (4, .int a4), (5, .int a5), (6, .int a6)] [] := by
  refine x_iload (pc := 87) dL_load_87 6 rfl ?_
  refine x_iload_n (pc := 89) dL_load_89 3 rfl rfl ?_
  refine x_icmp_ge (pc := 90) (tgt := 220) dL_load_90 (by decide) (fun c1 => ?_) (fun c1 => ?_)
  · have h := h.1 c1
    refine x_iload (pc := 220) dL_load_220 4 rfl ?_
    refine x_iload_n (pc := 222) dL_load_222 1 rfl rfl ?_
    refine x_bipush (pc := 223) (v := 41) dL_load_223 (by decide) ?_
    refine x_irem (pc := 225) dL_load_225 (by decide) ?_
    refine x_if_ne (pc := 226) (tgt := 244) dL_load_226 (by decide) (fun c2 => ?_) (fun c2 => ?_)
    · have h := h.1 c2
      refine x_iconst (pc := 244) (v := 0) dL_load_244 (by decide) ?_
      refine x_iadd (pc := 245) dL_load_245 ?_
      refine x_istore (pc := 246) dL_load_246 (by decide) rfl ?_
      exact x_sub [1, 0] rfl h
    · have h := h.2 c2
      refine x_aload_n (pc := 229) dL_load_229 0 rfl rfl ?_
      refine x_ldcQ (pc := 230) (fun _ _ h => h) rfl dL_load_230 ?_
      refine x_iload_n (pc := 232) dL_load_232 2 rfl rfl ?_
      refine x_iconst (pc := 233) (v := 4) dL_load_233 (by decide) ?_
      refine x_irem (pc := 234) dL_load_234 (by decide) ?_
      obtain ⟨k3, hk4, e5, h⟩ := h
      refine x_eq (st2 := [.int (nI k3), .ref q.1, .ref (gA G 0), .int a4]) rfl rfl (by rw [← e5]) ?_
      refine x_callQE (pc := 235) (As := [.int (nI k3)]) (c_charAt hk4) (fun _ _ h => h) ok_J0_charAt_5068e dL_load_235 tb_651 ⟨⟨rfl, rfl⟩, ⟨by decide, by decide⟩, by decide, by decide⟩ rfl rfl (Nat.le_of_ble_eq_true rfl) ?_
      rintro _ _ ⟨_, rfl, rfl, rfl⟩
      obtain ⟨Q6, hc7, h⟩ := h
      refine x_callVI (pc := 238) 0 hc7 ok_X6_append dL_load_238 tb_247 ⟨⟨rfl, rfl⟩, ⟨by decide, by decide⟩, by decide, by decide⟩ (mK hG (by decide)) (mc_0 hG _) rfl (As := [.int (chQ k3)]) rfl rfl (Nat.le_of_ble_eq_true rfl) (fun r8 m9 q10 => ?_)
      have h := h r8 m9 q10
      refine x_goto (pc := 241) (tgt := 245) dL_load_241 (by decide) ?_
      refine x_iadd (pc := 245) dL_load_245 ?_
      refine x_istore (pc := 246) dL_load_246 (by decide) rfl ?_
      exact x_sub [1, 0] rfl h
  · have h := h.2 c1
    refine x_iload (pc := 93) dL_load_93 5 rfl ?_
    refine x_bipush (pc := 95) (v := 6) dL_load_95 (by decide) ?_
    refine x_irem (pc := 97) dL_load_97 (by decide) ?_
    refine x_if_le (pc := 98) (tgt := 200) dL_load_98 (by decide) (fun c11 => ?_) (fun c11 => ?_)
    · have h := h.1 c11
      exact x_sub [0, 1, 2, 3, 4, 5, 6] rfl h
    · have h := h.2 c11
      refine x_iload (pc := 101) dL_load_101 5 rfl ?_
      refine x_bipush (pc := 103) (v := 6) dL_load_103 (by decide) ?_
      refine x_idiv (pc := 105) dL_load_105 (by decide) ?_
      refine x_iconst (pc := 106) (v := 4) dL_load_106 (by decide) ?_
      refine x_irem (pc := 107) dL_load_107 (by decide) ?_
      refine x_if_ne (pc := 108) (tgt := 118) dL_load_108 (by decide) (fun c12 => ?_) (fun c12 => ?_)
      · have h := h.1 c12
        refine x_iload (pc := 118) dL_load_118 5 rfl ?_
        refine x_bipush (pc := 120) (v := 24) dL_load_120 (by decide) ?_
        refine x_idiv (pc := 122) dL_load_122 (by decide) ?_
        refine x_iload (pc := 123) dL_load_123 6 rfl ?_
        refine x_irem (pc := 125) dL_load_125 h.1 ?_
        have h := h.2
        refine x_istore (pc := 126) dL_load_126 (by decide) rfl ?_
        exact x_sub [1, 2, 3, 4, 5, 6, 7, 0] rfl h
      · have h := h.2 c12
        refine x_iload (pc := 111) dL_load_111 6 rfl ?_
        refine x_iconst (pc := 113) (v := 1) dL_load_113 (by decide) ?_
        refine x_isub (pc := 114) dL_load_114 ?_
        refine x_goto (pc := 115) (tgt := 126) dL_load_115 (by decide) ?_
        refine x_istore (pc := 126) dL_load_126 (by decide) rfl ?_
        exact x_sub [1, 2, 3, 4, 5, 6, 7, 0] rfl h
set_option maxRecDepth 100000 in
set_option maxHeartbeats 4000000 in
theorem t_L_load_128 {l : Launch} {q : E5} {G : Gx} {P : Int32 → Mem → Prop} (hG : Mn G) (a1 : Int32) (a2 : Int32) (a3 : Int32) (a4 : Int32) (a5 : Int32) (a6 : Int32) (a7 : Int32) (mem : Mem)
    (h : (¬ (a5 - a5 / 2 * 2) = 0 → (∃ Q2 : Int32 → Mem → Prop, CtI l M_X6_append G [.ref (gA G 0), .int (97 + a7)] mem Q2 ∧ ∀ (r4 : Int32) (m5 : Mem), Q2 r4 m5 → (∃ Q7 : Int32 → Mem → Prop, CtI l M_X6_append G [.ref (gA G 0), .int (97 + a6)] m5 Q7 ∧ ∀ (r9 : Int32) (m10 : Mem), Q7 r9 m10 → (XJ l M_L_load q G P m10 181 [(0, .ref (gA G 0)), (1, .int a1), (2, .int a2), (3, .int a3), (4, .int (a4 + (r4 + r9))), (5, .int a5), (6, .int a6)] [])))) ∧ ((a5 - a5 / 2 * 2) = 0 → (∃ Q12 : Int32 → Mem → Prop, CtI l M_X6_append G [.ref (gA G 0), .int (97 + a6)] mem Q12 ∧ ∀ (r14 : Int32) (m15 : Mem), Q12 r14 m15 → (∃ Q17 : Int32 → Mem → Prop, CtI l M_X6_append G [.ref (gA G 0), .int (97 + a7)] m15 Q17 ∧ ∀ (r19 : Int32) (m20 : Mem), Q17 r19 m20 → (XJ l M_L_load q G P m20 181 [(0, .ref (gA G 0)), (1, .int a1), (2, .int a2), (3, .int a3), (4, .int (a4 + (r14 + r19))), (5, .int a5), (6, .int a6)] []))))) :
    XJ l M_L_load q G P mem 128 [(0, .ref (gA G 0)), (1, .int a1), (2, .int a2), (3, .int a3), (4, .int a4), (5, .int a5), (6, .int a6), (7, .int a7)] [] := by
  refine x_iload (pc := 128) dL_load_128 4 rfl ?_
  refine x_iload (pc := 130) dL_load_130 5 rfl ?_
  refine x_iconst (pc := 132) (v := 2) dL_load_132 (by decide) ?_
  refine x_irem (pc := 133) dL_load_133 (by decide) ?_
  refine x_if_ne (pc := 134) (tgt := 159) dL_load_134 (by decide) (fun c1 => ?_) (fun c1 => ?_)
  · have h := h.1 c1
    refine x_aload_n (pc := 159) dL_load_159 0 rfl rfl ?_
    refine x_bipush (pc := 160) (v := 97) dL_load_160 (by decide) ?_
    refine x_iload (pc := 162) dL_load_162 7 rfl ?_
    refine x_iadd (pc := 164) dL_load_164 ?_
    obtain ⟨Q2, hc3, h⟩ := h
    refine x_callVI (pc := 165) 0 hc3 ok_X6_append dL_load_165 tb_247 ⟨⟨rfl, rfl⟩, ⟨by decide, by decide⟩, by decide, by decide⟩ (mK hG (by decide)) (mc_0 hG _) rfl (As := [.int (97 + a7)]) rfl rfl (Nat.le_of_ble_eq_true rfl) (fun r4 m5 q6 => ?_)
    have h := h r4 m5 q6
    refine x_aload_n (pc := 168) dL_load_168 0 rfl rfl ?_
    refine x_bipush (pc := 169) (v := 97) dL_load_169 (by decide) ?_
    refine x_iload (pc := 171) dL_load_171 6 rfl ?_
    refine x_iadd (pc := 173) dL_load_173 ?_
    obtain ⟨Q7, hc8, h⟩ := h
    refine x_callVI (pc := 174) 0 hc8 ok_X6_append dL_load_174 tb_247 ⟨⟨rfl, rfl⟩, ⟨by decide, by decide⟩, by decide, by decide⟩ (mK hG (by decide)) (mc_0 hG _) rfl (As := [.int (97 + a6)]) rfl rfl (Nat.le_of_ble_eq_true rfl) (fun r9 m10 q11 => ?_)
    have h := h r9 m10 q11
    refine x_iadd (pc := 177) dL_load_177 ?_
    refine x_iadd (pc := 178) dL_load_178 ?_
    refine x_istore (pc := 179) dL_load_179 (by decide) rfl ?_
    exact x_sub [1, 2, 3, 4, 0, 5, 6] rfl h
  · have h := h.2 c1
    refine x_aload_n (pc := 137) dL_load_137 0 rfl rfl ?_
    refine x_bipush (pc := 138) (v := 97) dL_load_138 (by decide) ?_
    refine x_iload (pc := 140) dL_load_140 6 rfl ?_
    refine x_iadd (pc := 142) dL_load_142 ?_
    obtain ⟨Q12, hc13, h⟩ := h
    refine x_callVI (pc := 143) 0 hc13 ok_X6_append dL_load_143 tb_247 ⟨⟨rfl, rfl⟩, ⟨by decide, by decide⟩, by decide, by decide⟩ (mK hG (by decide)) (mc_0 hG _) rfl (As := [.int (97 + a6)]) rfl rfl (Nat.le_of_ble_eq_true rfl) (fun r14 m15 q16 => ?_)
    have h := h r14 m15 q16
    refine x_aload_n (pc := 146) dL_load_146 0 rfl rfl ?_
    refine x_bipush (pc := 147) (v := 97) dL_load_147 (by decide) ?_
    refine x_iload (pc := 149) dL_load_149 7 rfl ?_
    refine x_iadd (pc := 151) dL_load_151 ?_
    obtain ⟨Q17, hc18, h⟩ := h
    refine x_callVI (pc := 152) 0 hc18 ok_X6_append dL_load_152 tb_247 ⟨⟨rfl, rfl⟩, ⟨by decide, by decide⟩, by decide, by decide⟩ (mK hG (by decide)) (mc_0 hG _) rfl (As := [.int (97 + a7)]) rfl rfl (Nat.le_of_ble_eq_true rfl) (fun r19 m20 q21 => ?_)
    have h := h r19 m20 q21
    refine x_iadd (pc := 155) dL_load_155 ?_
    refine x_goto (pc := 156) (tgt := 178) dL_load_156 (by decide) ?_
    refine x_iadd (pc := 178) dL_load_178 ?_
    refine x_istore (pc := 179) dL_load_179 (by decide) rfl ?_
    exact x_sub [1, 2, 3, 4, 0, 5, 6] rfl h
set_option maxRecDepth 100000 in
set_option maxHeartbeats 4000000 in
theorem t_L_load_181 {l : Launch} {q : E5} {G : Gx} {P : Int32 → Mem → Prop} (hG : Mn G) (a1 : Int32) (a2 : Int32) (a3 : Int32) (a4 : Int32) (a5 : Int32) (a6 : Int32) (mem : Mem)
    (h : ∃ Q1 : Int32 → Mem → Prop, CtI l M_L_two G [.ref (gA G 0), .int (1 + ((a5 / 11) - (a5 / 11) / 99 * 99))] mem Q1 ∧ ∀ (r3 : Int32) (m4 : Mem), Q1 r3 m4 → (XJ l M_L_load q G P m4 200 [(0, .ref (gA G 0)), (1, .int a1), (2, .int a2), (3, .int a3), (4, .int (a4 + r3)), (5, .int a5), (6, .int a6)] [])) :
    XJ l M_L_load q G P mem 181 [(0, .ref (gA G 0)), (1, .int a1), (2, .int a2), (3, .int a3), (4, .int a4), (5, .int a5), (6, .int a6)] [] := by
  refine x_iload (pc := 181) dL_load_181 4 rfl ?_
  refine x_aload_n (pc := 183) dL_load_183 0 rfl rfl ?_
  refine x_iconst (pc := 184) (v := 1) dL_load_184 (by decide) ?_
  refine x_iload (pc := 185) dL_load_185 5 rfl ?_
  refine x_bipush (pc := 187) (v := 11) dL_load_187 (by decide) ?_
  refine x_idiv (pc := 189) dL_load_189 (by decide) ?_
  refine x_bipush (pc := 190) (v := 99) dL_load_190 (by decide) ?_
  refine x_irem (pc := 192) dL_load_192 (by decide) ?_
  refine x_iadd (pc := 193) dL_load_193 ?_
  obtain ⟨Q1, hc2, h⟩ := h
  refine x_callSI (pc := 194) hc2 ok_L_two dL_load_194 tb_646 ⟨⟨rfl, rfl⟩, ⟨by decide, by decide⟩, by decide, by decide⟩ rfl rfl (Nat.le_of_ble_eq_true rfl) (fun r3 m4 q5 => ?_)
  have h := h r3 m4 q5
  refine x_iadd (pc := 197) dL_load_197 ?_
  refine x_istore (pc := 198) dL_load_198 (by decide) rfl ?_
  exact x_sub [1, 2, 3, 4, 0, 5, 6] rfl h
set_option maxRecDepth 100000 in
set_option maxHeartbeats 4000000 in
theorem t_L_load_200 {l : Launch} {q : E5} {G : Gx} {P : Int32 → Mem → Prop} (hG : Mn G) (a1 : Int32) (a2 : Int32) (a3 : Int32) (a4 : Int32) (a5 : Int32) (a6 : Int32) (mem : Mem)
    (h : XJ l M_L_load q G P mem 87 [(0, .ref (gA G 0)), (1, .int a1), (2, .int a2), (3, .int a3), (4, .int a4), (5, .int ((a5 / 5) + (104729 * (a6 + 2)))), (6, .int (a6 + 1))] []) :
    XJ l M_L_load q G P mem 200 [(0, .ref (gA G 0)), (1, .int a1), (2, .int a2), (3, .int a3), (4, .int a4), (5, .int a5), (6, .int a6)] [] := by
  refine x_iload (pc := 200) dL_load_200 5 rfl ?_
  refine x_iconst (pc := 202) (v := 5) dL_load_202 (by decide) ?_
  refine x_idiv (pc := 203) dL_load_203 (by decide) ?_
  refine x_ldc (pc := 204) (v := 104729) dL_load_204 tb_649 ?_
  refine x_iload (pc := 206) dL_load_206 6 rfl ?_
  refine x_iconst (pc := 208) (v := 2) dL_load_208 (by decide) ?_
  refine x_iadd (pc := 209) dL_load_209 ?_
  refine x_imul (pc := 210) dL_load_210 ?_
  refine x_iadd (pc := 211) dL_load_211 ?_
  refine x_istore (pc := 212) dL_load_212 (by decide) rfl ?_
  refine x_iinc (pc := 214) (v := (a6 + 1)) dL_load_214 (k := 6) rfl rfl (by decide) rfl ?_
  refine x_goto (pc := 217) (tgt := 87) dL_load_217 (by decide) ?_
  exact x_sub [2, 3, 4, 5, 6, 1, 0] rfl h
set_option maxRecDepth 100000 in
set_option maxHeartbeats 4000000 in
theorem t_L_load_248 {l : Launch} {q : E5} {G : Gx} {P : Int32 → Mem → Prop} (hG : Mn G) (a4 : Int32) (mem : Mem)
    (h : ∃ Q1 : Int32 → Mem → Prop, CtI l M_X6_load G [.ref (gA G 0)] mem Q1 ∧ ∀ (r3 : Int32) (m4 : Mem), Q1 r3 m4 → (P ((53 * a4) + r3) m4)) :
    XJ l M_L_load q G P mem 248 [(0, .ref (gA G 0)), (4, .int a4)] [] := by
  refine x_bipush (pc := 248) (v := 53) dL_load_248 (by decide) ?_
  refine x_iload (pc := 250) dL_load_250 1 rfl ?_
  refine x_imul (pc := 252) dL_load_252 ?_
  refine x_aload_n (pc := 253) dL_load_253 0 rfl rfl ?_
  obtain ⟨Q1, hc2, h⟩ := h
  refine x_callVI (pc := 254) 0 hc2 ok_X6_load dL_load_254 tb_691 ⟨⟨rfl, rfl⟩, ⟨by decide, by decide⟩, by decide, by decide⟩ (mK hG (by decide)) (mc_0 hG _) rfl (As := []) rfl rfl (Nat.le_of_ble_eq_true rfl) (fun r3 m4 q5 => ?_)
  have h := h r3 m4 q5
  refine x_iadd (pc := 257) dL_load_257 ?_
  exact e_endJ (pc := 258) dL_load_258 rfl h
