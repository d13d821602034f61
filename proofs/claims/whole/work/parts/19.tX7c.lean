set_option maxRecDepth 100000 in
set_option maxHeartbeats 4000000 in
theorem t_X7_expectedReach_0 {l : Launch} {G : Gx} {P : Int64 → Mem → Prop} (hG : Mn G) (a1 : Int32) (a2 : Int32) (mem : Mem)
    (h : ∃ Q1 : Int32 → Mem → Prop, CtI l M_X7_isVertex G [.ref (gA G 327), .int a1] mem Q1 ∧ ∀ (r3 : Int32) (m4 : Mem), Q1 r3 m4 → ((¬ r3 = 0 → (∃ Q7 : Int32 → Mem → Prop, CtI l M_X7_in G [.long ((a2 : Int32).toInt64), .long 0, .long 10] m4 Q7 ∧ ∀ (r9 : Int32) (m10 : Mem), Q7 r9 m10 → ((¬ r9 = 0 → (∃ Q13 : Mem → Prop, CtV l M_X7_layFar G [.ref (gA G 327), .ref (gA G 329), .int a1] m10 Q13 ∧ ∀ m16 : Mem, Q13 m16 → (XL l M_X7_expectedReach G P m16 42 [(0, .ref (gA G 327)), (2, .int a2), (3, .long 0), (5, .int 0)] []))) ∧ (r9 = 0 → (P (-2) m10))))) ∧ (r3 = 0 → (P (-1) m4)))) :
    XL l M_X7_expectedReach G P mem 0 [(0, .ref (gA G 327)), (1, .int a1), (2, .int a2)] [] := by
  refine x_aload_n (pc := 0) dX7_expectedReach_0 0 rfl rfl ?_
  refine x_iload_n (pc := 1) dX7_expectedReach_1 1 rfl rfl ?_
  obtain ⟨Q1, hc2, h⟩ := h
  refine x_callVI (pc := 2) 327 hc2 ok_X7_isVertex dX7_expectedReach_2 tb_848 ⟨⟨rfl, rfl⟩, ⟨by decide, by decide⟩, by decide, by decide⟩ (mK hG (by decide)) (mc_327 hG _) rfl (As := [.int a1]) rfl rfl (Nat.le_of_ble_eq_true rfl) (fun r3 m4 q5 => ?_)
  have h := h r3 m4 q5
  refine x_if_ne (pc := 5) (tgt := 12) dX7_expectedReach_5 (by decide) (fun c6 => ?_) (fun c6 => ?_)
  · have h := h.1 c6
    refine x_iload_n (pc := 12) dX7_expectedReach_12 2 rfl rfl ?_
    refine x_i2l (pc := 13) dX7_expectedReach_13 ?_
    refine x_lconst (pc := 14) (v := 0) dX7_expectedReach_14 rfl ?_
    refine x_ldc2 (pc := 15) (v := 10) dX7_expectedReach_15 tb_1002 ?_
    obtain ⟨Q7, hc8, h⟩ := h
    refine x_callSI (pc := 18) hc8 ok_X7_in dX7_expectedReach_18 tb_789 ⟨⟨rfl, rfl⟩, ⟨by decide, by decide⟩, by decide, by decide⟩ rfl rfl (Nat.le_of_ble_eq_true rfl) (fun r9 m10 q11 => ?_)
    have h := h r9 m10 q11
    refine x_if_ne (pc := 21) (tgt := 28) dX7_expectedReach_21 (by decide) (fun c12 => ?_) (fun c12 => ?_)
    · have h := h.1 c12
      refine x_aload_n (pc := 28) dX7_expectedReach_28 0 rfl rfl ?_
      refine x_aload_n (pc := 29) dX7_expectedReach_29 0 rfl rfl ?_
      refine x_get (pc := 30) 327 5 dX7_expectedReach_30 (mK hG (by decide)) (mc_327 hG _) rfl inX7 (by decide) tb_716 rfl rfl ?_
      refine x_iload_n (pc := 33) dX7_expectedReach_33 1 rfl rfl ?_
      obtain ⟨Q13, hc14, h⟩ := h
      refine x_callVV (pc := 34) 327 hc14 ok_X7_layFar dX7_expectedReach_34 tb_824 ⟨⟨rfl, rfl⟩, ⟨by decide, by decide⟩, by decide, by decide⟩ (mK hG (by decide)) (mc_327 hG _) rfl (As := [.ref (gA G 329), .int a1]) rfl rfl (Nat.le_of_ble_eq_true rfl) (fun m16 q17 => ?_)
      have h := h m16 q17
      refine x_lconst (pc := 37) (v := 0) dX7_expectedReach_37 rfl ?_
      refine x_lstore_n (pc := 38) dX7_expectedReach_38 rfl (by decide) rfl ?_
      refine x_iconst (pc := 39) (v := 0) dX7_expectedReach_39 (by decide) ?_
      refine x_istore (pc := 40) dX7_expectedReach_40 (by decide) rfl ?_
      exact x_sub [2, 4, 1, 0] rfl h
    · have h := h.2 c12
      refine x_ldc2 (pc := 24) (v := (-2)) dX7_expectedReach_24 tb_1003 ?_
      exact x_endL (pc := 27) dX7_expectedReach_27 rfl h
  · have h := h.2 c6
    refine x_ldc2 (pc := 8) (v := (-1)) dX7_expectedReach_8 tb_1001 ?_
    exact x_endL (pc := 11) dX7_expectedReach_11 rfl h
set_option maxRecDepth 100000 in
set_option maxHeartbeats 4000000 in
theorem t_X7_expectedReach_42 {l : Launch} {G : Gx} {P : Int64 → Mem → Prop} (hG : Mn G) (a2 : Int32) (a3 : Int64) (a5 : Int32) (mem : Mem)
    (h : ((mem 327 3) ≤ a5 → (P a3 mem)) ∧ (¬ (mem 327 3) ≤ a5 → (vp_in a5 12 ∧ ((¬ (mem 336 a5.toNatClampNeg) = (-9) → (vp_in a5 156 ∧ (XL l M_X7_expectedReach G P mem 80 [(0, .ref (gA G 327)), (2, .int a2), (3, .long a3), (5, .int a5), (6, .long (((mem 329 a5.toNatClampNeg) : Int32).toInt64)), (8, .int 0)] []))) ∧ ((mem 336 a5.toNatClampNeg) = (-9) → (XL l M_X7_expectedReach G P mem 80 [(0, .ref (gA G 327)), (2, .int a2), (3, .long a3), (5, .int a5), (6, .long 0), (8, .int 0)] [])))))) :
    XL l M_X7_expectedReach G P mem 42 [(0, .ref (gA G 327)), (2, .int a2), (3, .long a3), (5, .int a5)] [] := by
  refine x_iload (pc := 42) dX7_expectedReach_42 3 rfl ?_
  refine x_aload_n (pc := 44) dX7_expectedReach_44 0 rfl rfl ?_
  refine x_get (pc := 45) 327 3 dX7_expectedReach_45 (mK hG (by decide)) (mc_327 hG _) rfl inX7 (by decide) tb_714 rfl rfl ?_
  refine x_icmp_ge (pc := 48) (tgt := 132) dX7_expectedReach_48 (by decide) (fun c1 => ?_) (fun c1 => ?_)
  · have h := h.1 c1
    refine x_lload_n (pc := 132) dX7_expectedReach_132 2 rfl rfl ?_
    exact x_endL (pc := 133) dX7_expectedReach_133 rfl h
  · have h := h.2 c1
    refine x_aload_n (pc := 51) dX7_expectedReach_51 0 rfl rfl ?_
    refine x_get (pc := 52) 327 15 dX7_expectedReach_52 (mK hG (by decide)) (mc_327 hG _) rfl inX7 (by decide) tb_726 rfl rfl ?_
    refine x_iload (pc := 55) dX7_expectedReach_55 3 rfl ?_
    have n2 := h.1
    refine x_iald (pc := 57) 336 dX7_expectedReach_57 (mK hG (by decide)) (mc_336 hG _) n2 ?_
    have h := h.2
    refine x_bipush (pc := 58) (v := (-9)) dX7_expectedReach_58 (by decide) ?_
    refine x_icmp_ne (pc := 60) (tgt := 67) dX7_expectedReach_60 (by decide) (fun c3 => ?_) (fun c3 => ?_)
    · have h := h.1 c3
      refine x_aload_n (pc := 67) dX7_expectedReach_67 0 rfl rfl ?_
      refine x_get (pc := 68) 327 5 dX7_expectedReach_68 (mK hG (by decide)) (mc_327 hG _) rfl inX7 (by decide) tb_716 rfl rfl ?_
      refine x_iload (pc := 71) dX7_expectedReach_71 3 rfl ?_
      have n4 := h.1
      refine x_iald (pc := 73) 329 dX7_expectedReach_73 (mK hG (by decide)) (mc_329 hG _) n4 ?_
      have h := h.2
      refine x_i2l (pc := 74) dX7_expectedReach_74 ?_
      refine x_lstore (pc := 75) dX7_expectedReach_75 (by decide) rfl ?_
      refine x_iconst (pc := 77) (v := 0) dX7_expectedReach_77 (by decide) ?_
      refine x_istore (pc := 78) dX7_expectedReach_78 (by decide) rfl ?_
      exact x_sub [2, 3, 4, 5, 1, 0] rfl h
    · have h := h.2 c3
      refine x_lconst (pc := 63) (v := 0) dX7_expectedReach_63 rfl ?_
      refine x_goto (pc := 64) (tgt := 75) dX7_expectedReach_64 (by decide) ?_
      refine x_lstore (pc := 75) dX7_expectedReach_75 (by decide) rfl ?_
      refine x_iconst (pc := 77) (v := 0) dX7_expectedReach_77 (by decide) ?_
      refine x_istore (pc := 78) dX7_expectedReach_78 (by decide) rfl ?_
      exact x_sub [2, 3, 4, 5, 1, 0] rfl h
set_option maxRecDepth 100000 in
set_option maxHeartbeats 4000000 in
theorem t_X7_expectedReach_80 {l : Launch} {G : Gx} {P : Int64 → Mem → Prop} (hG : Mn G) (a2 : Int32) (a3 : Int64) (a5 : Int32) (a6 : Int64) (a8 : Int32) (mem : Mem)
    (h : (11 ≤ a8 → (XL l M_X7_expectedReach G P mem 42 [(0, .ref (gA G 327)), (2, .int a2), (3, .long (a3 + a6)), (5, .int (a5 + 1))] [])) ∧ (¬ 11 ≤ a8 → (vp_in a5 12 ∧ (((mem 337 a5.toNatClampNeg) ≤ a8 → (XL l M_X7_expectedReach G P mem 80 [(0, .ref (gA G 327)), (2, .int a2), (3, .long a3), (5, .int a5), (6, .long (a6 * 10)), (8, .int (a8 + 1))] [])) ∧ (¬ (mem 337 a5.toNatClampNeg) ≤ a8 → (XL l M_X7_expectedReach G P mem 80 [(0, .ref (gA G 327)), (2, .int a2), (3, .long a3), (5, .int a5), (6, .long (a6 * (((10 - a2) : Int32).toInt64))), (8, .int (a8 + 1))] [])))))) :
    XL l M_X7_expectedReach G P mem 80 [(0, .ref (gA G 327)), (2, .int a2), (3, .long a3), (5, .int a5), (6, .long a6), (8, .int a8)] [] := by
  refine x_iload (pc := 80) dX7_expectedReach_80 5 rfl ?_
  refine x_bipush (pc := 82) (v := 11) dX7_expectedReach_82 (by decide) ?_
  refine x_icmp_ge (pc := 84) (tgt := 121) dX7_expectedReach_84 (by decide) (fun c1 => ?_) (fun c1 => ?_)
  · have h := h.1 c1
    refine x_lload_n (pc := 121) dX7_expectedReach_121 2 rfl rfl ?_
    refine x_lload (pc := 122) dX7_expectedReach_122 4 rfl ?_
    refine x_ladd (pc := 124) dX7_expectedReach_124 ?_
    refine x_lstore_n (pc := 125) dX7_expectedReach_125 rfl (by decide) rfl ?_
    refine x_iinc (pc := 126) (v := (a5 + 1)) dX7_expectedReach_126 (k := 3) rfl rfl (by decide) rfl ?_
    refine x_goto (pc := 129) (tgt := 42) dX7_expectedReach_129 (by decide) ?_
    exact x_sub [2, 3, 1, 0] rfl h
  · have h := h.2 c1
    refine x_lload (pc := 87) dX7_expectedReach_87 4 rfl ?_
    refine x_iload (pc := 89) dX7_expectedReach_89 5 rfl ?_
    refine x_aload_n (pc := 91) dX7_expectedReach_91 0 rfl rfl ?_
    refine x_get (pc := 92) 327 16 dX7_expectedReach_92 (mK hG (by decide)) (mc_327 hG _) rfl inX7 (by decide) tb_727 rfl rfl ?_
    refine x_iload (pc := 95) dX7_expectedReach_95 3 rfl ?_
    have n2 := h.1
    refine x_iald (pc := 97) 337 dX7_expectedReach_97 (mK hG (by decide)) (mc_337 hG _) n2 ?_
    have h := h.2
    refine x_icmp_ge (pc := 98) (tgt := 109) dX7_expectedReach_98 (by decide) (fun c3 => ?_) (fun c3 => ?_)
    · have h := h.1 c3
      refine x_ldc2 (pc := 109) (v := 10) dX7_expectedReach_109 tb_1002 ?_
      refine x_lmul (pc := 112) dX7_expectedReach_112 ?_
      refine x_lstore (pc := 113) dX7_expectedReach_113 (by decide) rfl ?_
      refine x_iinc (pc := 115) (v := (a8 + 1)) dX7_expectedReach_115 (k := 5) rfl rfl (by decide) rfl ?_
      refine x_goto (pc := 118) (tgt := 80) dX7_expectedReach_118 (by decide) ?_
      exact x_sub [2, 3, 4, 5, 1, 0] rfl h
    · have h := h.2 c3
      refine x_bipush (pc := 101) (v := 10) dX7_expectedReach_101 (by decide) ?_
      refine x_iload_n (pc := 103) dX7_expectedReach_103 1 rfl rfl ?_
      refine x_isub (pc := 104) dX7_expectedReach_104 ?_
      refine x_i2l (pc := 105) dX7_expectedReach_105 ?_
      refine x_goto (pc := 106) (tgt := 112) dX7_expectedReach_106 (by decide) ?_
      refine x_lmul (pc := 112) dX7_expectedReach_112 ?_
      refine x_lstore (pc := 113) dX7_expectedReach_113 (by decide) rfl ?_
      refine x_iinc (pc := 115) (v := (a8 + 1)) dX7_expectedReach_115 (k := 5) rfl rfl (by decide) rfl ?_
      refine x_goto (pc := 118) (tgt := 80) dX7_expectedReach_118 (by decide) ?_
      exact x_sub [2, 3, 4, 5, 1, 0] rfl h
set_option maxRecDepth 100000 in
set_option maxHeartbeats 4000000 in
theorem t_X7_observe_0 {l : Launch} {G : Gx} {P : Int32 → Mem → Prop} (hG : Mn G) (a1 : Int32) (a2 : Int32) (a3 : Int32) (mem : Mem)
    (h : ∃ Q1 : Int32 → Mem → Prop, CtI l M_X7_in G [.long ((a1 : Int32).toInt64), .long 0, .long 11] mem Q1 ∧ ∀ (r3 : Int32) (m4 : Mem), Q1 r3 m4 → ((r3 = 0 → (P (-2) m4)) ∧ (¬ r3 = 0 → (∃ Q7 : Int32 → Mem → Prop, CtI l M_X7_in G [.long ((a2 : Int32).toInt64), .long 0, .long 11] m4 Q7 ∧ ∀ (r9 : Int32) (m10 : Mem), Q7 r9 m10 → ((r9 = 0 → (P (-2) m10)) ∧ (¬ r9 = 0 → (∃ Q13 : Int32 → Mem → Prop, CtI l M_X7_in G [.long ((a3 : Int32).toInt64), .long 0, .long 999] m10 Q13 ∧ ∀ (r15 : Int32) (m16 : Mem), Q13 r15 m16 → ((¬ r15 = 0 → ((¬ (m16 327 14) = 6 → (vp_in (3 * (m16 327 14)) 18 ∧ (∀ m21 : Mem, m21 = (wr m16 335 ((3 * (m16 327 14)).toNatClampNeg) a1) → (vp_in ((3 * (m21 327 14)) + 1) 18 ∧ (∀ m24 : Mem, m24 = (wr m21 335 (((3 * (m21 327 14)) + 1).toNatClampNeg) a2) → (vp_in ((3 * (m24 327 14)) + 2) 18 ∧ (∀ m27 : Mem, m27 = (wr m24 335 (((3 * (m24 327 14)) + 2).toNatClampNeg) a3) → (∀ m29 : Mem, m29 = (wr m27 327 14 ((m27 327 14) + 1)) → (P (m29 327 14) m29))))))))) ∧ ((m16 327 14) = 6 → (XI l M_X7_observe G P m16 51 [(0, .ref (gA G 327)), (1, .int a1), (2, .int a2), (3, .int a3), (4, .int 0)] [])))) ∧ (r15 = 0 → (P (-2) m16)))))))))) :
    XI l M_X7_observe G P mem 0 [(0, .ref (gA G 327)), (1, .int a1), (2, .int a2), (3, .int a3)] [] := by
  refine x_iload_n (pc := 0) dX7_observe_0 1 rfl rfl ?_
  refine x_i2l (pc := 1) dX7_observe_1 ?_
  refine x_lconst (pc := 2) (v := 0) dX7_observe_2 rfl ?_
  refine x_ldc2 (pc := 3) (v := 11) dX7_observe_3 tb_1008 ?_
  obtain ⟨Q1, hc2, h⟩ := h
  refine x_callSI (pc := 6) hc2 ok_X7_in dX7_observe_6 tb_789 ⟨⟨rfl, rfl⟩, ⟨by decide, by decide⟩, by decide, by decide⟩ rfl rfl (Nat.le_of_ble_eq_true rfl) (fun r3 m4 q5 => ?_)
  have h := h r3 m4 q5
  refine x_if_eq (pc := 9) (tgt := 36) dX7_observe_9 (by decide) (fun c6 => ?_) (fun c6 => ?_)
  · have h := h.1 c6
    refine x_bipush (pc := 36) (v := (-2)) dX7_observe_36 (by decide) ?_
    exact x_endI (pc := 38) dX7_observe_38 rfl h
  · have h := h.2 c6
    refine x_iload_n (pc := 12) dX7_observe_12 2 rfl rfl ?_
    refine x_i2l (pc := 13) dX7_observe_13 ?_
    refine x_lconst (pc := 14) (v := 0) dX7_observe_14 rfl ?_
    refine x_ldc2 (pc := 15) (v := 11) dX7_observe_15 tb_1008 ?_
    obtain ⟨Q7, hc8, h⟩ := h
    refine x_callSI (pc := 18) hc8 ok_X7_in dX7_observe_18 tb_789 ⟨⟨rfl, rfl⟩, ⟨by decide, by decide⟩, by decide, by decide⟩ rfl rfl (Nat.le_of_ble_eq_true rfl) (fun r9 m10 q11 => ?_)
    have h := h r9 m10 q11
    refine x_if_eq (pc := 21) (tgt := 36) dX7_observe_21 (by decide) (fun c12 => ?_) (fun c12 => ?_)
    · have h := h.1 c12
      refine x_bipush (pc := 36) (v := (-2)) dX7_observe_36 (by decide) ?_
      exact x_endI (pc := 38) dX7_observe_38 rfl h
    · have h := h.2 c12
      refine x_iload_n (pc := 24) dX7_observe_24 3 rfl rfl ?_
      refine x_i2l (pc := 25) dX7_observe_25 ?_
      refine x_lconst (pc := 26) (v := 0) dX7_observe_26 rfl ?_
      refine x_ldc2 (pc := 27) (v := 999) dX7_observe_27 tb_1009 ?_
      obtain ⟨Q13, hc14, h⟩ := h
      refine x_callSI (pc := 30) hc14 ok_X7_in dX7_observe_30 tb_789 ⟨⟨rfl, rfl⟩, ⟨by decide, by decide⟩, by decide, by decide⟩ rfl rfl (Nat.le_of_ble_eq_true rfl) (fun r15 m16 q17 => ?_)
      have h := h r15 m16 q17
      refine x_if_ne (pc := 33) (tgt := 39) dX7_observe_33 (by decide) (fun c18 => ?_) (fun c18 => ?_)
      · have h := h.1 c18
        refine x_aload_n (pc := 39) dX7_observe_39 0 rfl rfl ?_
        refine x_get (pc := 40) 327 14 dX7_observe_40 (mK hG (by decide)) (mc_327 hG _) rfl inX7 (by decide) tb_725 rfl rfl ?_
        refine x_bipush (pc := 43) (v := 6) dX7_observe_43 (by decide) ?_
        refine x_icmp_ne (pc := 45) (tgt := 90) dX7_observe_45 (by decide) (fun c19 => ?_) (fun c19 => ?_)
        · have h := h.1 c19
          refine x_aload_n (pc := 90) dX7_observe_90 0 rfl rfl ?_
          refine x_get (pc := 91) 327 13 dX7_observe_91 (mK hG (by decide)) (mc_327 hG _) rfl inX7 (by decide) tb_724 rfl rfl ?_
          refine x_iconst (pc := 94) (v := 3) dX7_observe_94 (by decide) ?_
          refine x_aload_n (pc := 95) dX7_observe_95 0 rfl rfl ?_
          refine x_get (pc := 96) 327 14 dX7_observe_96 (mK hG (by decide)) (mc_327 hG _) rfl inX7 (by decide) tb_725 rfl rfl ?_
          refine x_imul (pc := 99) dX7_observe_99 ?_
          refine x_iload_n (pc := 100) dX7_observe_100 1 rfl rfl ?_
          have n20 := h.1
          have h := h.2
          refine x_iast (pc := 101) 335 dX7_observe_101 (mK hG (by decide)) (mc_335 hG) n20 ?_
          obtain ⟨m21, e22⟩ : ∃ z, z = (wr m16 335 ((3 * (m16 327 14)).toNatClampNeg) a1) := ⟨_, rfl⟩
          refine x_mem e22.symm ?_
          have h := h m21 e22
          refine x_aload_n (pc := 102) dX7_observe_102 0 rfl rfl ?_
          refine x_get (pc := 103) 327 13 dX7_observe_103 (mK hG (by decide)) (mc_327 hG _) rfl inX7 (by decide) tb_724 rfl rfl ?_
          refine x_iconst (pc := 106) (v := 3) dX7_observe_106 (by decide) ?_
          refine x_aload_n (pc := 107) dX7_observe_107 0 rfl rfl ?_
          refine x_get (pc := 108) 327 14 dX7_observe_108 (mK hG (by decide)) (mc_327 hG _) rfl inX7 (by decide) tb_725 rfl rfl ?_
          refine x_imul (pc := 111) dX7_observe_111 ?_
          refine x_iconst (pc := 112) (v := 1) dX7_observe_112 (by decide) ?_
          refine x_iadd (pc := 113) dX7_observe_113 ?_
          refine x_iload_n (pc := 114) dX7_observe_114 2 rfl rfl ?_
          have n23 := h.1
          have h := h.2
          refine x_iast (pc := 115) 335 dX7_observe_115 (mK hG (by decide)) (mc_335 hG) n23 ?_
          obtain ⟨m24, e25⟩ : ∃ z, z = (wr m21 335 (((3 * (m21 327 14)) + 1).toNatClampNeg) a2) := ⟨_, rfl⟩
          refine x_mem e25.symm ?_
          have h := h m24 e25
          refine x_aload_n (pc := 116) dX7_observe_116 0 rfl rfl ?_
          refine x_get (pc := 117) 327 13 dX7_observe_117 (mK hG (by decide)) (mc_327 hG _) rfl inX7 (by decide) tb_724 rfl rfl ?_
          refine x_iconst (pc := 120) (v := 3) dX7_observe_120 (by decide) ?_
          refine x_aload_n (pc := 121) dX7_observe_121 0 rfl rfl ?_
          refine x_get (pc := 122) 327 14 dX7_observe_122 (mK hG (by decide)) (mc_327 hG _) rfl inX7 (by decide) tb_725 rfl rfl ?_
          refine x_imul (pc := 125) dX7_observe_125 ?_
          refine x_iconst (pc := 126) (v := 2) dX7_observe_126 (by decide) ?_
          refine x_iadd (pc := 127) dX7_observe_127 ?_
          refine x_iload_n (pc := 128) dX7_observe_128 3 rfl rfl ?_
          have n26 := h.1
          have h := h.2
          refine x_iast (pc := 129) 335 dX7_observe_129 (mK hG (by decide)) (mc_335 hG) n26 ?_
          obtain ⟨m27, e28⟩ : ∃ z, z = (wr m24 335 (((3 * (m24 327 14)) + 2).toNatClampNeg) a3) := ⟨_, rfl⟩
          refine x_mem e28.symm ?_
          have h := h m27 e28
          refine x_aload_n (pc := 130) dX7_observe_130 0 rfl rfl ?_
          refine x_dup (pc := 131) dX7_observe_131 rfl ?_
          refine x_get (pc := 132) 327 14 dX7_observe_132 (mK hG (by decide)) (mc_327 hG _) rfl inX7 (by decide) tb_725 rfl rfl ?_
          refine x_iconst (pc := 135) (v := 1) dX7_observe_135 (by decide) ?_
          refine x_iadd (pc := 136) dX7_observe_136 ?_
          refine x_put (pc := 137) 327 14 dX7_observe_137 (mK hG (by decide)) (mc_327 hG) rfl inX7 tyX7 tyX7_ok nmX7 (by decide) tb_725 rfl rfl (by decide +kernel) (fun _ => Nat.le_of_ble_eq_true rfl) (fun _ _ => rfl) ?_
          obtain ⟨m29, e30⟩ : ∃ z, z = (wr m27 327 14 ((m27 327 14) + 1)) := ⟨_, rfl⟩
          refine x_mem e30.symm ?_
          have h := h m29 e30
          refine x_aload_n (pc := 140) dX7_observe_140 0 rfl rfl ?_
          refine x_get (pc := 141) 327 14 dX7_observe_141 (mK hG (by decide)) (mc_327 hG _) rfl inX7 (by decide) tb_725 rfl rfl ?_
          exact x_endI (pc := 144) dX7_observe_144 rfl h
        · have h := h.2 c19
          refine x_iconst (pc := 48) (v := 0) dX7_observe_48 (by decide) ?_
          refine x_istore (pc := 49) dX7_observe_49 (by decide) rfl ?_
          exact x_sub [1, 2, 3, 4, 0] rfl h
      · have h := h.2 c18
        refine x_bipush (pc := 36) (v := (-2)) dX7_observe_36 (by decide) ?_
        exact x_endI (pc := 38) dX7_observe_38 rfl h
set_option maxRecDepth 100000 in
set_option maxHeartbeats 4000000 in
theorem t_X7_observe_51 {l : Launch} {G : Gx} {P : Int32 → Mem → Prop} (hG : Mn G) (a1 : Int32) (a2 : Int32) (a3 : Int32) (a4 : Int32) (mem : Mem)
    (h : (15 ≤ a4 → (∀ m2 : Mem, m2 = (wr mem 327 14 ((mem 327 14) - 1)) → (vp_in (3 * (m2 327 14)) 18 ∧ (∀ m5 : Mem, m5 = (wr m2 335 ((3 * (m2 327 14)).toNatClampNeg) a1) → (vp_in ((3 * (m5 327 14)) + 1) 18 ∧ (∀ m8 : Mem, m8 = (wr m5 335 (((3 * (m5 327 14)) + 1).toNatClampNeg) a2) → (vp_in ((3 * (m8 327 14)) + 2) 18 ∧ (∀ m11 : Mem, m11 = (wr m8 335 (((3 * (m8 327 14)) + 2).toNatClampNeg) a3) → (∀ m13 : Mem, m13 = (wr m11 327 14 ((m11 327 14) + 1)) → (P (m13 327 14) m13)))))))))) ∧ (¬ 15 ≤ a4 → (vp_in (a4 + 3) 18 ∧ (vp_in a4 18 ∧ (∀ m17 : Mem, m17 = (wr mem 335 a4.toNatClampNeg (mem 335 (a4 + 3).toNatClampNeg)) → (XI l M_X7_observe G P m17 51 [(0, .ref (gA G 327)), (1, .int a1), (2, .int a2), (3, .int a3), (4, .int (a4 + 1))] [])))))) :
    XI l M_X7_observe G P mem 51 [(0, .ref (gA G 327)), (1, .int a1), (2, .int a2), (3, .int a3), (4, .int a4)] [] := by
  refine x_iload (pc := 51) dX7_observe_51 4 rfl ?_
  refine x_bipush (pc := 53) (v := 15) dX7_observe_53 (by decide) ?_
  refine x_icmp_ge (pc := 55) (tgt := 80) dX7_observe_55 (by decide) (fun c1 => ?_) (fun c1 => ?_)
  · have h := h.1 c1
    refine x_aload_n (pc := 80) dX7_observe_80 0 rfl rfl ?_
    refine x_dup (pc := 81) dX7_observe_81 rfl ?_
    refine x_get (pc := 82) 327 14 dX7_observe_82 (mK hG (by decide)) (mc_327 hG _) rfl inX7 (by decide) tb_725 rfl rfl ?_
    refine x_iconst (pc := 85) (v := 1) dX7_observe_85 (by decide) ?_
    refine x_isub (pc := 86) dX7_observe_86 ?_
    refine x_put (pc := 87) 327 14 dX7_observe_87 (mK hG (by decide)) (mc_327 hG) rfl inX7 tyX7 tyX7_ok nmX7 (by decide) tb_725 rfl rfl (by decide +kernel) (fun _ => Nat.le_of_ble_eq_true rfl) (fun _ _ => rfl) ?_
    obtain ⟨m2, e3⟩ : ∃ z, z = (wr mem 327 14 ((mem 327 14) - 1)) := ⟨_, rfl⟩
    refine x_mem e3.symm ?_
    have h := h m2 e3
    refine x_aload_n (pc := 90) dX7_observe_90 0 rfl rfl ?_
    refine x_get (pc := 91) 327 13 dX7_observe_91 (mK hG (by decide)) (mc_327 hG _) rfl inX7 (by decide) tb_724 rfl rfl ?_
    refine x_iconst (pc := 94) (v := 3) dX7_observe_94 (by decide) ?_
    refine x_aload_n (pc := 95) dX7_observe_95 0 rfl rfl ?_
    refine x_get (pc := 96) 327 14 dX7_observe_96 (mK hG (by decide)) (mc_327 hG _) rfl inX7 (by decide) tb_725 rfl rfl ?_
    refine x_imul (pc := 99) dX7_observe_99 ?_
    refine x_iload_n (pc := 100) dX7_observe_100 1 rfl rfl ?_
    have n4 := h.1
    have h := h.2
    refine x_iast (pc := 101) 335 dX7_observe_101 (mK hG (by decide)) (mc_335 hG) n4 ?_
    obtain ⟨m5, e6⟩ : ∃ z, z = (wr m2 335 ((3 * (m2 327 14)).toNatClampNeg) a1) := ⟨_, rfl⟩
    refine x_mem e6.symm ?_
    have h := h m5 e6
    refine x_aload_n (pc := 102) dX7_observe_102 0 rfl rfl ?_
    refine x_get (pc := 103) 327 13 dX7_observe_103 (mK hG (by decide)) (mc_327 hG _) rfl inX7 (by decide) tb_724 rfl rfl ?_
    refine x_iconst (pc := 106) (v := 3) dX7_observe_106 (by decide) ?_
    refine x_aload_n (pc := 107) dX7_observe_107 0 rfl rfl ?_
    refine x_get (pc := 108) 327 14 dX7_observe_108 (mK hG (by decide)) (mc_327 hG _) rfl inX7 (by decide) tb_725 rfl rfl ?_
    refine x_imul (pc := 111) dX7_observe_111 ?_
    refine x_iconst (pc := 112) (v := 1) dX7_observe_112 (by decide) ?_
    refine x_iadd (pc := 113) dX7_observe_113 ?_
    refine x_iload_n (pc := 114) dX7_observe_114 2 rfl rfl ?_
    have n7 := h.1
    have h := h.2
    refine x_iast (pc := 115) 335 dX7_observe_115 (mK hG (by decide)) (mc_335 hG) n7 ?_
    obtain ⟨m8, e9⟩ : ∃ z, z = (wr m5 335 (((3 * (m5 327 14)) + 1).toNatClampNeg) a2) := ⟨_, rfl⟩
    refine x_mem e9.symm ?_
    have h := h m8 e9
    refine x_aload_n (pc := 116) dX7_observe_116 0 rfl rfl ?_
    refine x_get (pc := 117) 327 13 dX7_observe_117 (mK hG (by decide)) (mc_327 hG _) rfl inX7 (by decide) tb_724 rfl rfl ?_
    refine x_iconst (pc := 120) (v := 3) dX7_observe_120 (by decide) ?_
    refine x_aload_n (pc := 121) dX7_observe_121 0 rfl rfl ?_
    refine x_get (pc := 122) 327 14 dX7_observe_122 (mK hG (by decide)) (mc_327 hG _) rfl inX7 (by decide) tb_725 rfl rfl ?_
    refine x_imul (pc := 125) dX7_observe_125 ?_
    refine x_iconst (pc := 126) (v := 2) dX7_observe_126 (by decide) ?_
    refine x_iadd (pc := 127) dX7_observe_127 ?_
    refine x_iload_n (pc := 128) dX7_observe_128 3 rfl rfl ?_
    have n10 := h.1
    have h := h.2
    refine x_iast (pc := 129) 335 dX7_observe_129 (mK hG (by decide)) (mc_335 hG) n10 ?_
    obtain ⟨m11, e12⟩ : ∃ z, z = (wr m8 335 (((3 * (m8 327 14)) + 2).toNatClampNeg) a3) := ⟨_, rfl⟩
    refine x_mem e12.symm ?_
    have h := h m11 e12
    refine x_aload_n (pc := 130) dX7_observe_130 0 rfl rfl ?_
    refine x_dup (pc := 131) dX7_observe_131 rfl ?_
    refine x_get (pc := 132) 327 14 dX7_observe_132 (mK hG (by decide)) (mc_327 hG _) rfl inX7 (by decide) tb_725 rfl rfl ?_
    refine x_iconst (pc := 135) (v := 1) dX7_observe_135 (by decide) ?_
    refine x_iadd (pc := 136) dX7_observe_136 ?_
    refine x_put (pc := 137) 327 14 dX7_observe_137 (mK hG (by decide)) (mc_327 hG) rfl inX7 tyX7 tyX7_ok nmX7 (by decide) tb_725 rfl rfl (by decide +kernel) (fun _ => Nat.le_of_ble_eq_true rfl) (fun _ _ => rfl) ?_
    obtain ⟨m13, e14⟩ : ∃ z, z = (wr m11 327 14 ((m11 327 14) + 1)) := ⟨_, rfl⟩
    refine x_mem e14.symm ?_
    have h := h m13 e14
    refine x_aload_n (pc := 140) dX7_observe_140 0 rfl rfl ?_
    refine x_get (pc := 141) 327 14 dX7_observe_141 (mK hG (by decide)) (mc_327 hG _) rfl inX7 (by decide) tb_725 rfl rfl ?_
    exact x_endI (pc := 144) dX7_observe_144 rfl h
  · have h := h.2 c1
    refine x_aload_n (pc := 58) dX7_observe_58 0 rfl rfl ?_
    refine x_get (pc := 59) 327 13 dX7_observe_59 (mK hG (by decide)) (mc_327 hG _) rfl inX7 (by decide) tb_724 rfl rfl ?_
    refine x_iload (pc := 62) dX7_observe_62 4 rfl ?_
    refine x_aload_n (pc := 64) dX7_observe_64 0 rfl rfl ?_
    refine x_get (pc := 65) 327 13 dX7_observe_65 (mK hG (by decide)) (mc_327 hG _) rfl inX7 (by decide) tb_724 rfl rfl ?_
    refine x_iload (pc := 68) dX7_observe_68 4 rfl ?_
    refine x_iconst (pc := 70) (v := 3) dX7_observe_70 (by decide) ?_
    refine x_iadd (pc := 71) dX7_observe_71 ?_
    have n15 := h.1
    refine x_iald (pc := 72) 335 dX7_observe_72 (mK hG (by decide)) (mc_335 hG _) n15 ?_
    have h := h.2
    have n16 := h.1
    have h := h.2
    refine x_iast (pc := 73) 335 dX7_observe_73 (mK hG (by decide)) (mc_335 hG) n16 ?_
    obtain ⟨m17, e18⟩ : ∃ z, z = (wr mem 335 a4.toNatClampNeg (mem 335 (a4 + 3).toNatClampNeg)) := ⟨_, rfl⟩
    refine x_mem e18.symm ?_
    have h := h m17 e18
    refine x_iinc (pc := 74) (v := (a4 + 1)) dX7_observe_74 (k := 4) rfl rfl (by decide) rfl ?_
    refine x_goto (pc := 77) (tgt := 51) dX7_observe_77 (by decide) ?_
    exact x_sub [1, 2, 3, 4, 0] rfl h
set_option maxRecDepth 100000 in
set_option maxHeartbeats 4000000 in
theorem t_X7_agrees_0 {l : Launch} {G : Gx} {P : Int32 → Mem → Prop} (hG : Mn G) {r : Nat} (hr : Ra G r)  (mem : Mem)
    (h : XI l M_X7_agrees G P mem 4 [(0, .ref (gA G 327)), (1, .ref (gA G r)), (2, .int 1), (3, .int 0)] []) :
    XI l M_X7_agrees G P mem 0 [(0, .ref (gA G 327)), (1, .ref (gA G r))] [] := by
  refine x_iconst (pc := 0) (v := 1) dX7_agrees_0 (by decide) ?_
  refine x_istore_n (pc := 1) dX7_agrees_1 rfl (by decide) rfl ?_
  refine x_iconst (pc := 2) (v := 0) dX7_agrees_2 (by decide) ?_
  refine x_istore_n (pc := 3) dX7_agrees_3 rfl (by decide) rfl ?_
  exact x_sub [2, 3, 1, 0] rfl h
set_option maxRecDepth 100000 in
set_option maxHeartbeats 4000000 in
theorem t_X7_agrees_4 {l : Launch} {G : Gx} {P : Int32 → Mem → Prop} (hG : Mn G) {r : Nat} (hr : Ra G r) (a2 : Int32) (a3 : Int32) (mem : Mem)
    (h : ((mem 327 14) ≤ a3 → ((a2 = 0 ∨ a2 = 1) ∧ P a2 mem)) ∧ (¬ (mem 327 14) ≤ a3 → (vp_in (3 * a3) 18 ∧ (vp_in ((3 * a3) + 1) 18 ∧ ((a2 = 0 → (XI l M_X7_agrees G P mem 4 [(0, .ref (gA G 327)), (1, .ref (gA G r)), (2, .int 0), (3, .int (a3 + 1))] [])) ∧ (¬ a2 = 0 → (∃ Q5 : Int32 → Mem → Prop, CtI l M_X7_isVertex G [.ref (gA G 327), .int (mem 335 (3 * a3).toNatClampNeg)] mem Q5 ∧ ∀ (r7 : Int32) (m8 : Mem), Q5 r7 m8 → ((r7 = 0 → (XI l M_X7_agrees G P m8 4 [(0, .ref (gA G 327)), (1, .ref (gA G r)), (2, .int 0), (3, .int (a3 + 1))] [])) ∧ (¬ r7 = 0 → (∃ Q11 : Int32 → Mem → Prop, CtI l M_X7_isVertex G [.ref (gA G 327), .int (mem 335 ((3 * a3) + 1).toNatClampNeg)] m8 Q11 ∧ ∀ (r13 : Int32) (m14 : Mem), Q11 r13 m14 → ((r13 = 0 → (XI l M_X7_agrees G P m14 4 [(0, .ref (gA G 327)), (1, .ref (gA G r)), (2, .int 0), (3, .int (a3 + 1))] [])) ∧ (¬ r13 = 0 → (∃ Q17 : Int32 → Mem → Prop, CtI l M_X7_farOf G [.ref (gA G 327), .ref (gA G r), .int (mem 335 (3 * a3).toNatClampNeg), .int (mem 335 ((3 * a3) + 1).toNatClampNeg)] m14 Q17 ∧ ∀ (r19 : Int32) (m20 : Mem), Q17 r19 m20 → (vp_in ((3 * a3) + 2) 18 ∧ ((¬ r19 = (m20 335 ((3 * a3) + 2).toNatClampNeg) → (XI l M_X7_agrees G P m20 4 [(0, .ref (gA G 327)), (1, .ref (gA G r)), (2, .int 0), (3, .int (a3 + 1))] [])) ∧ (r19 = (m20 335 ((3 * a3) + 2).toNatClampNeg) → (XI l M_X7_agrees G P m20 4 [(0, .ref (gA G 327)), (1, .ref (gA G r)), (2, .int 1), (3, .int (a3 + 1))] []))))))))))))))))) :
    XI l M_X7_agrees G P mem 4 [(0, .ref (gA G 327)), (1, .ref (gA G r)), (2, .int a2), (3, .int a3)] [] := by
  refine x_iload_n (pc := 4) dX7_agrees_4 3 rfl rfl ?_
  refine x_aload_n (pc := 5) dX7_agrees_5 0 rfl rfl ?_
  refine x_get (pc := 6) 327 14 dX7_agrees_6 (mK hG (by decide)) (mc_327 hG _) rfl inX7 (by decide) tb_725 rfl rfl ?_
  refine x_icmp_ge (pc := 9) (tgt := 90) dX7_agrees_9 (by decide) (fun c1 => ?_) (fun c1 => ?_)
  · have h := h.1 c1
    refine x_iload_n (pc := 90) dX7_agrees_90 2 rfl rfl ?_
    exact x_endZ (pc := 91) dX7_agrees_91 rfl h.1 h.2
  · have h := h.2 c1
    refine x_aload_n (pc := 12) dX7_agrees_12 0 rfl rfl ?_
    refine x_get (pc := 13) 327 13 dX7_agrees_13 (mK hG (by decide)) (mc_327 hG _) rfl inX7 (by decide) tb_724 rfl rfl ?_
    refine x_iconst (pc := 16) (v := 3) dX7_agrees_16 (by decide) ?_
    refine x_iload_n (pc := 17) dX7_agrees_17 3 rfl rfl ?_
    refine x_imul (pc := 18) dX7_agrees_18 ?_
    have n2 := h.1
    refine x_iald (pc := 19) 335 dX7_agrees_19 (mK hG (by decide)) (mc_335 hG _) n2 ?_
    have h := h.2
    refine x_istore (pc := 20) dX7_agrees_20 (by decide) rfl ?_
    refine x_aload_n (pc := 22) dX7_agrees_22 1 rfl rfl ?_
    refine x_get (pc := 23) 327 13 dX7_agrees_23 (mK hG (by decide)) (mc_327 hG _) rfl inX7 (by decide) tb_724 rfl rfl ?_
    refine x_iconst (pc := 26) (v := 3) dX7_agrees_26 (by decide) ?_
    refine x_iload_n (pc := 27) dX7_agrees_27 4 rfl rfl ?_
    refine x_imul (pc := 28) dX7_agrees_28 ?_
    refine x_iconst (pc := 29) (v := 1) dX7_agrees_29 (by decide) ?_
    refine x_iadd (pc := 30) dX7_agrees_30 ?_
    have n3 := h.1
    refine x_iald (pc := 31) 335 dX7_agrees_31 (mK hG (by decide)) (mc_335 hG _) n3 ?_
    have h := h.2
    refine x_istore (pc := 32) dX7_agrees_32 (by decide) rfl ?_
    refine x_iload_n (pc := 34) dX7_agrees_34 4 rfl rfl ?_
    refine x_if_eq (pc := 35) (tgt := 82) dX7_agrees_35 (by decide) (fun c4 => ?_) (fun c4 => ?_)
    · have h := h.1 c4
      refine x_iconst (pc := 82) (v := 0) dX7_agrees_82 (by decide) ?_
      refine x_istore_n (pc := 83) dX7_agrees_83 rfl (by decide) rfl ?_
      refine x_iinc (pc := 84) (v := (a3 + 1)) dX7_agrees_84 (k := 5) rfl rfl (by decide) rfl ?_
      refine x_goto (pc := 87) (tgt := 4) dX7_agrees_87 (by decide) ?_
      exact x_sub [4, 5, 1, 0] rfl h
    · have h := h.2 c4
      refine x_aload_n (pc := 38) dX7_agrees_38 2 rfl rfl ?_
      refine x_iload (pc := 39) dX7_agrees_39 1 rfl ?_
      obtain ⟨Q5, hc6, h⟩ := h
      refine x_callVI (pc := 41) 327 hc6 ok_X7_isVertex dX7_agrees_41 tb_848 ⟨⟨rfl, rfl⟩, ⟨by decide, by decide⟩, by decide, by decide⟩ (mK hG (by decide)) (mc_327 hG _) rfl (As := [.int (mem 335 (3 * a3).toNatClampNeg)]) rfl rfl (Nat.le_of_ble_eq_true rfl) (fun r7 m8 q9 => ?_)
      have h := h r7 m8 q9
      refine x_if_eq (pc := 44) (tgt := 82) dX7_agrees_44 (by decide) (fun c10 => ?_) (fun c10 => ?_)
      · have h := h.1 c10
        refine x_iconst (pc := 82) (v := 0) dX7_agrees_82 (by decide) ?_
        refine x_istore_n (pc := 83) dX7_agrees_83 rfl (by decide) rfl ?_
        refine x_iinc (pc := 84) (v := (a3 + 1)) dX7_agrees_84 (k := 5) rfl rfl (by decide) rfl ?_
        refine x_goto (pc := 87) (tgt := 4) dX7_agrees_87 (by decide) ?_
        exact x_sub [4, 5, 1, 0] rfl h
      · have h := h.2 c10
        refine x_aload_n (pc := 47) dX7_agrees_47 2 rfl rfl ?_
        refine x_iload (pc := 48) dX7_agrees_48 0 rfl ?_
        obtain ⟨Q11, hc12, h⟩ := h
        refine x_callVI (pc := 50) 327 hc12 ok_X7_isVertex dX7_agrees_50 tb_848 ⟨⟨rfl, rfl⟩, ⟨by decide, by decide⟩, by decide, by decide⟩ (mK hG (by decide)) (mc_327 hG _) rfl (As := [.int (mem 335 ((3 * a3) + 1).toNatClampNeg)]) rfl rfl (Nat.le_of_ble_eq_true rfl) (fun r13 m14 q15 => ?_)
        have h := h r13 m14 q15
        refine x_if_eq (pc := 53) (tgt := 82) dX7_agrees_53 (by decide) (fun c16 => ?_) (fun c16 => ?_)
        · have h := h.1 c16
          refine x_iconst (pc := 82) (v := 0) dX7_agrees_82 (by decide) ?_
          refine x_istore_n (pc := 83) dX7_agrees_83 rfl (by decide) rfl ?_
          refine x_iinc (pc := 84) (v := (a3 + 1)) dX7_agrees_84 (k := 5) rfl rfl (by decide) rfl ?_
          refine x_goto (pc := 87) (tgt := 4) dX7_agrees_87 (by decide) ?_
          exact x_sub [4, 5, 1, 0] rfl h
        · have h := h.2 c16
          refine x_aload_n (pc := 56) dX7_agrees_56 2 rfl rfl ?_
          refine x_aload_n (pc := 57) dX7_agrees_57 3 rfl rfl ?_
          refine x_iload (pc := 58) dX7_agrees_58 1 rfl ?_
          refine x_iload (pc := 60) dX7_agrees_60 0 rfl ?_
          obtain ⟨Q17, hc18, h⟩ := h
          refine x_callVI (pc := 62) 327 hc18 ok_X7_farOf dX7_agrees_62 tb_820 ⟨⟨rfl, rfl⟩, ⟨by decide, by decide⟩, by decide, by decide⟩ (mK hG (by decide)) (mc_327 hG _) rfl (As := [.ref (gA G r), .int (mem 335 (3 * a3).toNatClampNeg), .int (mem 335 ((3 * a3) + 1).toNatClampNeg)]) rfl rfl (Nat.le_of_ble_eq_true rfl) (fun r19 m20 q21 => ?_)
          have h := h r19 m20 q21
          refine x_aload_n (pc := 65) dX7_agrees_65 2 rfl rfl ?_
          refine x_get (pc := 66) 327 13 dX7_agrees_66 (mK hG (by decide)) (mc_327 hG _) rfl inX7 (by decide) tb_724 rfl rfl ?_
          refine x_iconst (pc := 69) (v := 3) dX7_agrees_69 (by decide) ?_
          refine x_iload_n (pc := 70) dX7_agrees_70 5 rfl rfl ?_
          refine x_imul (pc := 71) dX7_agrees_71 ?_
          refine x_iconst (pc := 72) (v := 2) dX7_agrees_72 (by decide) ?_
          refine x_iadd (pc := 73) dX7_agrees_73 ?_
          have n22 := h.1
          refine x_iald (pc := 74) 335 dX7_agrees_74 (mK hG (by decide)) (mc_335 hG _) n22 ?_
          have h := h.2
          refine x_icmp_ne (pc := 75) (tgt := 82) dX7_agrees_75 (by decide) (fun c23 => ?_) (fun c23 => ?_)
          · have h := h.1 c23
            refine x_iconst (pc := 82) (v := 0) dX7_agrees_82 (by decide) ?_
            refine x_istore_n (pc := 83) dX7_agrees_83 rfl (by decide) rfl ?_
            refine x_iinc (pc := 84) (v := (a3 + 1)) dX7_agrees_84 (k := 5) rfl rfl (by decide) rfl ?_
            refine x_goto (pc := 87) (tgt := 4) dX7_agrees_87 (by decide) ?_
            exact x_sub [4, 5, 1, 0] rfl h
          · have h := h.2 c23
            refine x_iconst (pc := 78) (v := 1) dX7_agrees_78 (by decide) ?_
            refine x_goto (pc := 79) (tgt := 83) dX7_agrees_79 (by decide) ?_
            refine x_istore_n (pc := 83) dX7_agrees_83 rfl (by decide) rfl ?_
            refine x_iinc (pc := 84) (v := (a3 + 1)) dX7_agrees_84 (k := 5) rfl rfl (by decide) rfl ?_
            refine x_goto (pc := 87) (tgt := 4) dX7_agrees_87 (by decide) ?_
            exact x_sub [4, 5, 1, 0] rfl h
set_option maxRecDepth 100000 in
set_option maxHeartbeats 4000000 in
theorem t_X7_possibleWeights_0 {l : Launch} {G : Gx} {P : Int32 → Mem → Prop} (hG : Mn G) (a1 : Int32) (a2 : Int32) (mem : Mem)
    (h : ∃ Q1 : Int32 → Mem → Prop, CtI l M_X7_edgeError G [.ref (gA G 327), .ref (gA G 329), .int a1, .int a2, .int 1] mem Q1 ∧ ∀ (r3 : Int32) (m4 : Mem), Q1 r3 m4 → ((r3 = 0 → (∃ Q7 : Mem → Prop, CtV l M_X7_copy G [.ref (gA G 329), .ref (gA G 330)] m4 Q7 ∧ ∀ m10 : Mem, Q7 m10 → (XI l M_X7_possibleWeights G P m10 35 [(0, .ref (gA G 327)), (1, .int a1), (2, .int a2), (4, .int 0), (5, .int 1)] []))) ∧ (¬ r3 = 0 → (P r3 m4)))) :
    XI l M_X7_possibleWeights G P mem 0 [(0, .ref (gA G 327)), (1, .int a1), (2, .int a2)] [] := by
  refine x_aload_n (pc := 0) dX7_possibleWeights_0 0 rfl rfl ?_
  refine x_aload_n (pc := 1) dX7_possibleWeights_1 0 rfl rfl ?_
  refine x_get (pc := 2) 327 5 dX7_possibleWeights_2 (mK hG (by decide)) (mc_327 hG _) rfl inX7 (by decide) tb_716 rfl rfl ?_
  refine x_iload_n (pc := 5) dX7_possibleWeights_5 1 rfl rfl ?_
  refine x_iload_n (pc := 6) dX7_possibleWeights_6 2 rfl rfl ?_
  refine x_iconst (pc := 7) (v := 1) dX7_possibleWeights_7 (by decide) ?_
  obtain ⟨Q1, hc2, h⟩ := h
  refine x_callVI (pc := 8) 327 hc2 ok_X7_edgeError dX7_possibleWeights_8 tb_877 ⟨⟨rfl, rfl⟩, ⟨by decide, by decide⟩, by decide, by decide⟩ (mK hG (by decide)) (mc_327 hG _) rfl (As := [.ref (gA G 329), .int a1, .int a2, .int 1]) rfl rfl (Nat.le_of_ble_eq_true rfl) (fun r3 m4 q5 => ?_)
  have h := h r3 m4 q5
  refine x_istore_n (pc := 11) dX7_possibleWeights_11 rfl (by decide) rfl ?_
  refine x_iload_n (pc := 12) dX7_possibleWeights_12 0 rfl rfl ?_
  refine x_if_eq (pc := 13) (tgt := 18) dX7_possibleWeights_13 (by decide) (fun c6 => ?_) (fun c6 => ?_)
  · have h := h.1 c6
    refine x_aload_n (pc := 18) dX7_possibleWeights_18 1 rfl rfl ?_
    refine x_get (pc := 19) 327 5 dX7_possibleWeights_19 (mK hG (by decide)) (mc_327 hG _) rfl inX7 (by decide) tb_716 rfl rfl ?_
    refine x_aload_n (pc := 22) dX7_possibleWeights_22 1 rfl rfl ?_
    refine x_get (pc := 23) 327 6 dX7_possibleWeights_23 (mK hG (by decide)) (mc_327 hG _) rfl inX7 (by decide) tb_717 rfl rfl ?_
    obtain ⟨Q7, hc8, h⟩ := h
    refine x_callSV (pc := 26) hc8 ok_X7_copy dX7_possibleWeights_26 tb_838 ⟨⟨rfl, rfl⟩, ⟨by decide, by decide⟩, by decide, by decide⟩ rfl rfl (Nat.le_of_ble_eq_true rfl) (fun m10 q11 => ?_)
    have h := h m10 q11
    refine x_iconst (pc := 29) (v := 0) dX7_possibleWeights_29 (by decide) ?_
    refine x_istore (pc := 30) dX7_possibleWeights_30 (by decide) rfl ?_
    refine x_iconst (pc := 32) (v := 1) dX7_possibleWeights_32 (by decide) ?_
    refine x_istore (pc := 33) dX7_possibleWeights_33 (by decide) rfl ?_
    exact x_sub [3, 4, 5, 1, 0] rfl h
  · have h := h.2 c6
    refine x_iload_n (pc := 16) dX7_possibleWeights_16 0 rfl rfl ?_
    exact x_endI (pc := 17) dX7_possibleWeights_17 rfl h
set_option maxRecDepth 100000 in
set_option maxHeartbeats 4000000 in
theorem t_X7_possibleWeights_35 {l : Launch} {G : Gx} {P : Int32 → Mem → Prop} (hG : Mn G) (a1 : Int32) (a2 : Int32) (a4 : Int32) (a5 : Int32) (mem : Mem)
    (h : (99 < a5 → (P a4 mem)) ∧ (¬ 99 < a5 → (∃ Q2 : Mem → Prop, CtV l M_X7_join G [.ref (gA G 330), .int a1, .int a2, .int a5] mem Q2 ∧ ∀ m5 : Mem, Q2 m5 → (∃ Q7 : Int32 → Mem → Prop, CtI l M_X7_agrees G [.ref (gA G 327), .ref (gA G 330)] m5 Q7 ∧ ∀ (r9 : Int32) (m10 : Mem), Q7 r9 m10 → ((r9 = 0 → (XI l M_X7_possibleWeights G P m10 35 [(0, .ref (gA G 327)), (1, .int a1), (2, .int a2), (4, .int (a4 + 0)), (5, .int (a5 + 1))] [])) ∧ (¬ r9 = 0 → (XI l M_X7_possibleWeights G P m10 35 [(0, .ref (gA G 327)), (1, .int a1), (2, .int a2), (4, .int (a4 + 1)), (5, .int (a5 + 1))] []))))))) :
    XI l M_X7_possibleWeights G P mem 35 [(0, .ref (gA G 327)), (1, .int a1), (2, .int a2), (4, .int a4), (5, .int a5)] [] := by
  refine x_iload (pc := 35) dX7_possibleWeights_35 4 rfl ?_
  refine x_bipush (pc := 37) (v := 99) dX7_possibleWeights_37 (by decide) ?_
  refine x_icmp_gt (pc := 39) (tgt := 80) dX7_possibleWeights_39 (by decide) (fun c1 => ?_) (fun c1 => ?_)
  · have h := h.1 c1
    refine x_iload (pc := 80) dX7_possibleWeights_80 3 rfl ?_
    exact x_endI (pc := 82) dX7_possibleWeights_82 rfl h
  · have h := h.2 c1
    refine x_aload_n (pc := 42) dX7_possibleWeights_42 0 rfl rfl ?_
    refine x_get (pc := 43) 327 6 dX7_possibleWeights_43 (mK hG (by decide)) (mc_327 hG _) rfl inX7 (by decide) tb_717 rfl rfl ?_
    refine x_iload_n (pc := 46) dX7_possibleWeights_46 1 rfl rfl ?_
    refine x_iload_n (pc := 47) dX7_possibleWeights_47 2 rfl rfl ?_
    refine x_iload (pc := 48) dX7_possibleWeights_48 4 rfl ?_
    obtain ⟨Q2, hc3, h⟩ := h
    refine x_callSV (pc := 50) hc3 ok_X7_join dX7_possibleWeights_50 tb_831 ⟨⟨rfl, rfl⟩, ⟨by decide, by decide⟩, by decide, by decide⟩ rfl rfl (Nat.le_of_ble_eq_true rfl) (fun m5 q6 => ?_)
    have h := h m5 q6
    refine x_iload (pc := 53) dX7_possibleWeights_53 3 rfl ?_
    refine x_aload_n (pc := 55) dX7_possibleWeights_55 0 rfl rfl ?_
    refine x_aload_n (pc := 56) dX7_possibleWeights_56 0 rfl rfl ?_
    refine x_get (pc := 57) 327 6 dX7_possibleWeights_57 (mK hG (by decide)) (mc_327 hG _) rfl inX7 (by decide) tb_717 rfl rfl ?_
    obtain ⟨Q7, hc8, h⟩ := h
    refine x_callVI (pc := 60) 327 hc8 ok_X7_agrees dX7_possibleWeights_60 tb_1014 ⟨⟨rfl, rfl⟩, ⟨by decide, by decide⟩, by decide, by decide⟩ (mK hG (by decide)) (mc_327 hG _) rfl (As := [.ref (gA G 330)]) rfl rfl (Nat.le_of_ble_eq_true rfl) (fun r9 m10 q11 => ?_)
    have h := h r9 m10 q11
    refine x_if_eq (pc := 63) (tgt := 70) dX7_possibleWeights_63 (by decide) (fun c12 => ?_) (fun c12 => ?_)
    · have h := h.1 c12
      refine x_iconst (pc := 70) (v := 0) dX7_possibleWeights_70 (by decide) ?_
      refine x_iadd (pc := 71) dX7_possibleWeights_71 ?_
      refine x_istore (pc := 72) dX7_possibleWeights_72 (by decide) rfl ?_
      refine x_iinc (pc := 74) (v := (a5 + 1)) dX7_possibleWeights_74 (k := 4) rfl rfl (by decide) rfl ?_
      refine x_goto (pc := 77) (tgt := 35) dX7_possibleWeights_77 (by decide) ?_
      exact x_sub [2, 3, 4, 1, 0] rfl h
    · have h := h.2 c12
      refine x_iconst (pc := 66) (v := 1) dX7_possibleWeights_66 (by decide) ?_
      refine x_goto (pc := 67) (tgt := 71) dX7_possibleWeights_67 (by decide) ?_
      refine x_iadd (pc := 71) dX7_possibleWeights_71 ?_
      refine x_istore (pc := 72) dX7_possibleWeights_72 (by decide) rfl ?_
      refine x_iinc (pc := 74) (v := (a5 + 1)) dX7_possibleWeights_74 (k := 4) rfl rfl (by decide) rfl ?_
      refine x_goto (pc := 77) (tgt := 35) dX7_possibleWeights_77 (by decide) ?_
      exact x_sub [2, 3, 4, 1, 0] rfl h
set_option maxRecDepth 100000 in
set_option maxHeartbeats 4000000 in
theorem t_X7_command_0 {l : Launch} {G : Gx} {P : Int32 → Mem → Prop} (hG : Mn G) (a1 : Int32) (a2 : Int32) (a3 : Int32) (mem : Mem)
    (h : ∃ Q1 : Int32 → Mem → Prop, CtI l M_X7_isVertex G [.ref (gA G 327), .int a2] mem Q1 ∧ ∀ (r3 : Int32) (m4 : Mem), Q1 r3 m4 → ((r3 = 0 → (XI l M_X7_command G P m4 36 [(0, .ref (gA G 327)), (1, .int a1), (2, .int a2), (3, .int a3), (4, .int 0)] [])) ∧ (¬ r3 = 0 → (∃ Q7 : Int32 → Mem → Prop, CtI l M_X7_isVertex G [.ref (gA G 327), .int a3] m4 Q7 ∧ ∀ (r9 : Int32) (m10 : Mem), Q7 r9 m10 → ((r9 = 0 → (XI l M_X7_command G P m10 36 [(0, .ref (gA G 327)), (1, .int a1), (2, .int a2), (3, .int a3), (4, .int 0)] [])) ∧ (¬ r9 = 0 → (∃ Q13 : Int32 → Mem → Prop, CtI l M_X7_isOneTree G [.ref (gA G 327), .ref (gA G 330), .int a2, .int a3] m10 Q13 ∧ ∀ (r15 : Int32) (m16 : Mem), Q13 r15 m16 → ((r15 = 0 → (XI l M_X7_command G P m16 36 [(0, .ref (gA G 327)), (1, .int a1), (2, .int a2), (3, .int a3), (4, .int 0)] [])) ∧ (¬ r15 = 0 → (XI l M_X7_command G P m16 36 [(0, .ref (gA G 327)), (1, .int a1), (2, .int a2), (3, .int a3), (4, .int 1)] [])))))))))) :
    XI l M_X7_command G P mem 0 [(0, .ref (gA G 327)), (1, .int a1), (2, .int a2), (3, .int a3)] [] := by
  refine x_aload_n (pc := 0) dX7_command_0 0 rfl rfl ?_
  refine x_iload_n (pc := 1) dX7_command_1 2 rfl rfl ?_
  obtain ⟨Q1, hc2, h⟩ := h
  refine x_callVI (pc := 2) 327 hc2 ok_X7_isVertex dX7_command_2 tb_848 ⟨⟨rfl, rfl⟩, ⟨by decide, by decide⟩, by decide, by decide⟩ (mK hG (by decide)) (mc_327 hG _) rfl (As := [.int a2]) rfl rfl (Nat.le_of_ble_eq_true rfl) (fun r3 m4 q5 => ?_)
  have h := h r3 m4 q5
  refine x_if_eq (pc := 5) (tgt := 33) dX7_command_5 (by decide) (fun c6 => ?_) (fun c6 => ?_)
  · have h := h.1 c6
    refine x_iconst (pc := 33) (v := 0) dX7_command_33 (by decide) ?_
    refine x_istore (pc := 34) dX7_command_34 (by decide) rfl ?_
    exact x_sub [1, 2, 3, 4, 0] rfl h
  · have h := h.2 c6
    refine x_aload_n (pc := 8) dX7_command_8 0 rfl rfl ?_
    refine x_iload_n (pc := 9) dX7_command_9 3 rfl rfl ?_
    obtain ⟨Q7, hc8, h⟩ := h
    refine x_callVI (pc := 10) 327 hc8 ok_X7_isVertex dX7_command_10 tb_848 ⟨⟨rfl, rfl⟩, ⟨by decide, by decide⟩, by decide, by decide⟩ (mK hG (by decide)) (mc_327 hG _) rfl (As := [.int a3]) rfl rfl (Nat.le_of_ble_eq_true rfl) (fun r9 m10 q11 => ?_)
    have h := h r9 m10 q11
    refine x_if_eq (pc := 13) (tgt := 33) dX7_command_13 (by decide) (fun c12 => ?_) (fun c12 => ?_)
    · have h := h.1 c12
      refine x_iconst (pc := 33) (v := 0) dX7_command_33 (by decide) ?_
      refine x_istore (pc := 34) dX7_command_34 (by decide) rfl ?_
      exact x_sub [1, 2, 3, 4, 0] rfl h
    · have h := h.2 c12
      refine x_aload_n (pc := 16) dX7_command_16 0 rfl rfl ?_
      refine x_aload_n (pc := 17) dX7_command_17 0 rfl rfl ?_
      refine x_get (pc := 18) 327 6 dX7_command_18 (mK hG (by decide)) (mc_327 hG _) rfl inX7 (by decide) tb_717 rfl rfl ?_
      refine x_iload_n (pc := 21) dX7_command_21 2 rfl rfl ?_
      refine x_iload_n (pc := 22) dX7_command_22 3 rfl rfl ?_
      obtain ⟨Q13, hc14, h⟩ := h
      refine x_callVI (pc := 23) 327 hc14 ok_X7_isOneTree dX7_command_23 tb_816 ⟨⟨rfl, rfl⟩, ⟨by decide, by decide⟩, by decide, by decide⟩ (mK hG (by decide)) (mc_327 hG _) rfl (As := [.ref (gA G 330), .int a2, .int a3]) rfl rfl (Nat.le_of_ble_eq_true rfl) (fun r15 m16 q17 => ?_)
      have h := h r15 m16 q17
      refine x_if_eq (pc := 26) (tgt := 33) dX7_command_26 (by decide) (fun c18 => ?_) (fun c18 => ?_)
      · have h := h.1 c18
        refine x_iconst (pc := 33) (v := 0) dX7_command_33 (by decide) ?_
        refine x_istore (pc := 34) dX7_command_34 (by decide) rfl ?_
        exact x_sub [1, 2, 3, 4, 0] rfl h
      · have h := h.2 c18
        refine x_iconst (pc := 29) (v := 1) dX7_command_29 (by decide) ?_
        refine x_goto (pc := 30) (tgt := 34) dX7_command_30 (by decide) ?_
        refine x_istore (pc := 34) dX7_command_34 (by decide) rfl ?_
        exact x_sub [1, 2, 3, 4, 0] rfl h
set_option maxRecDepth 100000 in
set_option maxHeartbeats 4000000 in
theorem t_X7_command_36 {l : Launch} {G : Gx} {P : Int32 → Mem → Prop} (hG : Mn G) (a1 : Int32) (a2 : Int32) (a3 : Int32) (a4 : Int32) (mem : Mem)
    (h : (a1.toInt = 1 → (∃ Q2 : Int32 → Mem → Prop, CtI l M_X7_linkError G [.ref (gA G 327), .ref (gA G 330), .int a2, .int a3, .int 1] mem Q2 ∧ ∀ (r4 : Int32) (m5 : Mem), Q2 r4 m5 → ((r4 = 0 → (∃ Q8 : Mem → Prop, CtV l M_X7_join G [.ref (gA G 330), .int a2, .int a3, .int 1] m5 Q8 ∧ ∀ m11 : Mem, Q8 m11 → (P 1 m11))) ∧ (¬ r4 = 0 → (P 0 m5))))) ∧ (a1.toInt = 2 → (∃ Q13 : Int32 → Mem → Prop, CtI l M_X7_edgeError G [.ref (gA G 327), .ref (gA G 330), .int a2, .int a3, .int 1] mem Q13 ∧ ∀ (r15 : Int32) (m16 : Mem), Q13 r15 m16 → ((r15 = 0 → (∃ Q19 : Mem → Prop, CtV l M_X7_join G [.ref (gA G 330), .int a2, .int a3, .int 0] m16 Q19 ∧ ∀ m22 : Mem, Q19 m22 → (P 1 m22))) ∧ (¬ r15 = 0 → (P 0 m16))))) ∧ (a1.toInt = 3 → ((a4 = 0 ∨ a4 = 1) ∧ P a4 mem)) ∧ (a1.toInt = 4 → ((a4 = 0 → (P 0 mem)) ∧ (¬ a4 = 0 → (∃ Q25 : Int32 → Mem → Prop, CtI l M_X7_leastOf G [.ref (gA G 327), .ref (gA G 330), .int a2, .int 0] mem Q25 ∧ ∀ (r27 : Int32) (m28 : Mem), Q25 r27 m28 → ((¬ r27 = a3 → (P 0 m28)) ∧ (r27 = a3 → (P 1 m28))))))) ∧ (a1.toInt = 5 → ((a4 = 0 → (P 0 mem)) ∧ (¬ a4 = 0 → ((¬ a2 = a3 → (∃ Q33 : Mem → Prop, CtV l M_X7_contract G [.ref (gA G 327), .ref (gA G 330), .int a2] mem Q33 ∧ ∀ m36 : Mem, Q33 m36 → (vp_in a2 12 ∧ (((m36 342 a2.toNatClampNeg) = (-9) → (P 0 m36)) ∧ (¬ (m36 342 a2.toNatClampNeg) = (-9) → (vp_in a3 12 ∧ (((m36 342 a3.toNatClampNeg) = (-9) → (P 1 m36)) ∧ (¬ (m36 342 a3.toNatClampNeg) = (-9) → (vp_in a2 12 ∧ (vp_in a3 12 ∧ (((m36 342 a3.toNatClampNeg) ≤ (m36 342 a2.toNatClampNeg) → (P 0 m36)) ∧ (¬ (m36 342 a3.toNatClampNeg) ≤ (m36 342 a2.toNatClampNeg) → (P 1 m36))))))))))))) ∧ (a2 = a3 → (P 0 mem)))))) ∧ (¬ a1.toInt = 1 → ¬ a1.toInt = 2 → ¬ a1.toInt = 3 → ¬ a1.toInt = 4 → ¬ a1.toInt = 5 → (P 0 mem))) :
    XI l M_X7_command G P mem 36 [(0, .ref (gA G 327)), (1, .int a1), (2, .int a2), (3, .int a3), (4, .int a4)] [] := by
  refine x_iload_n (pc := 36) dX7_command_36 1 rfl rfl ?_
  by_cases c1_1 : a1.toInt = 1
  · have h := h.1 c1_1
    refine x_tableIn (pc := 37) (tgt := 72) (off := 35) dX7_command_37 (by rw [c1_1]; decide) (by rw [c1_1]; decide) (by rw [c1_1]; rfl) (by decide) ?_
    refine x_aload_n (pc := 72) dX7_command_72 0 rfl rfl ?_
    refine x_aload_n (pc := 73) dX7_command_73 0 rfl rfl ?_
    refine x_get (pc := 74) 327 6 dX7_command_74 (mK hG (by decide)) (mc_327 hG _) rfl inX7 (by decide) tb_717 rfl rfl ?_
    refine x_iload_n (pc := 77) dX7_command_77 2 rfl rfl ?_
    refine x_iload_n (pc := 78) dX7_command_78 3 rfl rfl ?_
    refine x_iconst (pc := 79) (v := 1) dX7_command_79 (by decide) ?_
    obtain ⟨Q2, hc3, h⟩ := h
    refine x_callVI (pc := 80) 327 hc3 ok_X7_linkError dX7_command_80 tb_864 ⟨⟨rfl, rfl⟩, ⟨by decide, by decide⟩, by decide, by decide⟩ (mK hG (by decide)) (mc_327 hG _) rfl (As := [.ref (gA G 330), .int a2, .int a3, .int 1]) rfl rfl (Nat.le_of_ble_eq_true rfl) (fun r4 m5 q6 => ?_)
    have h := h r4 m5 q6
    refine x_if_eq (pc := 83) (tgt := 88) dX7_command_83 (by decide) (fun c7 => ?_) (fun c7 => ?_)
    · have h := h.1 c7
      refine x_aload_n (pc := 88) dX7_command_88 0 rfl rfl ?_
      refine x_get (pc := 89) 327 6 dX7_command_89 (mK hG (by decide)) (mc_327 hG _) rfl inX7 (by decide) tb_717 rfl rfl ?_
      refine x_iload_n (pc := 92) dX7_command_92 2 rfl rfl ?_
      refine x_iload_n (pc := 93) dX7_command_93 3 rfl rfl ?_
      refine x_iconst (pc := 94) (v := 1) dX7_command_94 (by decide) ?_
      obtain ⟨Q8, hc9, h⟩ := h
      refine x_callSV (pc := 95) hc9 ok_X7_join dX7_command_95 tb_831 ⟨⟨rfl, rfl⟩, ⟨by decide, by decide⟩, by decide, by decide⟩ rfl rfl (Nat.le_of_ble_eq_true rfl) (fun m11 q12 => ?_)
      have h := h m11 q12
      refine x_iconst (pc := 98) (v := 1) dX7_command_98 (by decide) ?_
      exact x_endZ (pc := 99) dX7_command_99 rfl (Or.inr rfl) h
    · have h := h.2 c7
      refine x_iconst (pc := 86) (v := 0) dX7_command_86 (by decide) ?_
      exact x_endZ (pc := 87) dX7_command_87 rfl (Or.inl rfl) h
  have h := h.2
  by_cases c1_2 : a1.toInt = 2
  · have h := h.1 c1_2
    refine x_tableIn (pc := 37) (tgt := 100) (off := 63) dX7_command_37 (by rw [c1_2]; decide) (by rw [c1_2]; decide) (by rw [c1_2]; rfl) (by decide) ?_
    refine x_aload_n (pc := 100) dX7_command_100 0 rfl rfl ?_
    refine x_aload_n (pc := 101) dX7_command_101 0 rfl rfl ?_
    refine x_get (pc := 102) 327 6 dX7_command_102 (mK hG (by decide)) (mc_327 hG _) rfl inX7 (by decide) tb_717 rfl rfl ?_
    refine x_iload_n (pc := 105) dX7_command_105 2 rfl rfl ?_
    refine x_iload_n (pc := 106) dX7_command_106 3 rfl rfl ?_
    refine x_iconst (pc := 107) (v := 1) dX7_command_107 (by decide) ?_
    obtain ⟨Q13, hc14, h⟩ := h
    refine x_callVI (pc := 108) 327 hc14 ok_X7_edgeError dX7_command_108 tb_877 ⟨⟨rfl, rfl⟩, ⟨by decide, by decide⟩, by decide, by decide⟩ (mK hG (by decide)) (mc_327 hG _) rfl (As := [.ref (gA G 330), .int a2, .int a3, .int 1]) rfl rfl (Nat.le_of_ble_eq_true rfl) (fun r15 m16 q17 => ?_)
    have h := h r15 m16 q17
    refine x_if_eq (pc := 111) (tgt := 116) dX7_command_111 (by decide) (fun c18 => ?_) (fun c18 => ?_)
    · have h := h.1 c18
      refine x_aload_n (pc := 116) dX7_command_116 0 rfl rfl ?_
      refine x_get (pc := 117) 327 6 dX7_command_117 (mK hG (by decide)) (mc_327 hG _) rfl inX7 (by decide) tb_717 rfl rfl ?_
      refine x_iload_n (pc := 120) dX7_command_120 2 rfl rfl ?_
      refine x_iload_n (pc := 121) dX7_command_121 3 rfl rfl ?_
      refine x_iconst (pc := 122) (v := 0) dX7_command_122 (by decide) ?_
      obtain ⟨Q19, hc20, h⟩ := h
      refine x_callSV (pc := 123) hc20 ok_X7_join dX7_command_123 tb_831 ⟨⟨rfl, rfl⟩, ⟨by decide, by decide⟩, by decide, by decide⟩ rfl rfl (Nat.le_of_ble_eq_true rfl) (fun m22 q23 => ?_)
      have h := h m22 q23
      refine x_iconst (pc := 126) (v := 1) dX7_command_126 (by decide) ?_
      exact x_endZ (pc := 127) dX7_command_127 rfl (Or.inr rfl) h
    · have h := h.2 c18
      refine x_iconst (pc := 114) (v := 0) dX7_command_114 (by decide) ?_
      exact x_endZ (pc := 115) dX7_command_115 rfl (Or.inl rfl) h
  have h := h.2
  by_cases c1_3 : a1.toInt = 3
  · have h := h.1 c1_3
    refine x_tableIn (pc := 37) (tgt := 128) (off := 91) dX7_command_37 (by rw [c1_3]; decide) (by rw [c1_3]; decide) (by rw [c1_3]; rfl) (by decide) ?_
    refine x_iload (pc := 128) dX7_command_128 4 rfl ?_
    exact x_endZ (pc := 130) dX7_command_130 rfl h.1 h.2
  have h := h.2
  by_cases c1_4 : a1.toInt = 4
  · have h := h.1 c1_4
    refine x_tableIn (pc := 37) (tgt := 131) (off := 94) dX7_command_37 (by rw [c1_4]; decide) (by rw [c1_4]; decide) (by rw [c1_4]; rfl) (by decide) ?_
    refine x_iload (pc := 131) dX7_command_131 4 rfl ?_
    refine x_if_eq (pc := 133) (tgt := 154) dX7_command_133 (by decide) (fun c24 => ?_) (fun c24 => ?_)
    · have h := h.1 c24
      refine x_iconst (pc := 154) (v := 0) dX7_command_154 (by decide) ?_
      exact x_endZ (pc := 155) dX7_command_155 rfl (Or.inl rfl) h
    · have h := h.2 c24
      refine x_aload_n (pc := 136) dX7_command_136 0 rfl rfl ?_
      refine x_aload_n (pc := 137) dX7_command_137 0 rfl rfl ?_
      refine x_get (pc := 138) 327 6 dX7_command_138 (mK hG (by decide)) (mc_327 hG _) rfl inX7 (by decide) tb_717 rfl rfl ?_
      refine x_iload_n (pc := 141) dX7_command_141 2 rfl rfl ?_
      refine x_iconst (pc := 142) (v := 0) dX7_command_142 (by decide) ?_
      obtain ⟨Q25, hc26, h⟩ := h
      refine x_callVI (pc := 143) 327 hc26 ok_X7_leastOf dX7_command_143 tb_925 ⟨⟨rfl, rfl⟩, ⟨by decide, by decide⟩, by decide, by decide⟩ (mK hG (by decide)) (mc_327 hG _) rfl (As := [.ref (gA G 330), .int a2, .int 0]) rfl rfl (Nat.le_of_ble_eq_true rfl) (fun r27 m28 q29 => ?_)
      have h := h r27 m28 q29
      refine x_iload_n (pc := 146) dX7_command_146 3 rfl rfl ?_
      refine x_icmp_ne (pc := 147) (tgt := 154) dX7_command_147 (by decide) (fun c30 => ?_) (fun c30 => ?_)
      · have h := h.1 c30
        refine x_iconst (pc := 154) (v := 0) dX7_command_154 (by decide) ?_
        exact x_endZ (pc := 155) dX7_command_155 rfl (Or.inl rfl) h
      · have h := h.2 c30
        refine x_iconst (pc := 150) (v := 1) dX7_command_150 (by decide) ?_
        refine x_goto (pc := 151) (tgt := 155) dX7_command_151 (by decide) ?_
        exact x_endZ (pc := 155) dX7_command_155 rfl (Or.inr rfl) h
  have h := h.2
  by_cases c1_5 : a1.toInt = 5
  · have h := h.1 c1_5
    refine x_tableIn (pc := 37) (tgt := 156) (off := 119) dX7_command_37 (by rw [c1_5]; decide) (by rw [c1_5]; decide) (by rw [c1_5]; rfl) (by decide) ?_
    refine x_iload (pc := 156) dX7_command_156 4 rfl ?_
    refine x_if_eq (pc := 158) (tgt := 166) dX7_command_158 (by decide) (fun c31 => ?_) (fun c31 => ?_)
    · have h := h.1 c31
      refine x_iconst (pc := 166) (v := 0) dX7_command_166 (by decide) ?_
      exact x_endZ (pc := 167) dX7_command_167 rfl (Or.inl rfl) h
    · have h := h.2 c31
      refine x_iload_n (pc := 161) dX7_command_161 2 rfl rfl ?_
      refine x_iload_n (pc := 162) dX7_command_162 3 rfl rfl ?_
      refine x_icmp_ne (pc := 163) (tgt := 168) dX7_command_163 (by decide) (fun c32 => ?_) (fun c32 => ?_)
      · have h := h.1 c32
        refine x_aload_n (pc := 168) dX7_command_168 0 rfl rfl ?_
        refine x_aload_n (pc := 169) dX7_command_169 0 rfl rfl ?_
        refine x_get (pc := 170) 327 6 dX7_command_170 (mK hG (by decide)) (mc_327 hG _) rfl inX7 (by decide) tb_717 rfl rfl ?_
        refine x_iload_n (pc := 173) dX7_command_173 2 rfl rfl ?_
        obtain ⟨Q33, hc34, h⟩ := h
        refine x_callVV (pc := 174) 327 hc34 ok_X7_contract dX7_command_174 tb_953 ⟨⟨rfl, rfl⟩, ⟨by decide, by decide⟩, by decide, by decide⟩ (mK hG (by decide)) (mc_327 hG _) rfl (As := [.ref (gA G 330), .int a2]) rfl rfl (Nat.le_of_ble_eq_true rfl) (fun m36 q37 => ?_)
        have h := h m36 q37
        refine x_aload_n (pc := 177) dX7_command_177 0 rfl rfl ?_
        refine x_get (pc := 178) 327 21 dX7_command_178 (mK hG (by decide)) (mc_327 hG _) rfl inX7 (by decide) tb_732 rfl rfl ?_
        refine x_iload_n (pc := 181) dX7_command_181 2 rfl rfl ?_
        have n38 := h.1
        refine x_iald (pc := 182) 342 dX7_command_182 (mK hG (by decide)) (mc_342 hG _) n38 ?_
        have h := h.2
        refine x_bipush (pc := 183) (v := (-9)) dX7_command_183 (by decide) ?_
        refine x_icmp_eq (pc := 185) (tgt := 218) dX7_command_185 (by decide) (fun c39 => ?_) (fun c39 => ?_)
        · have h := h.1 c39
          refine x_iconst (pc := 218) (v := 0) dX7_command_218 (by decide) ?_
          exact x_endZ (pc := 219) dX7_command_219 rfl (Or.inl rfl) h
        · have h := h.2 c39
          refine x_aload_n (pc := 188) dX7_command_188 0 rfl rfl ?_
          refine x_get (pc := 189) 327 21 dX7_command_189 (mK hG (by decide)) (mc_327 hG _) rfl inX7 (by decide) tb_732 rfl rfl ?_
          refine x_iload_n (pc := 192) dX7_command_192 3 rfl rfl ?_
          have n40 := h.1
          refine x_iald (pc := 193) 342 dX7_command_193 (mK hG (by decide)) (mc_342 hG _) n40 ?_
          have h := h.2
          refine x_bipush (pc := 194) (v := (-9)) dX7_command_194 (by decide) ?_
          refine x_icmp_eq (pc := 196) (tgt := 214) dX7_command_196 (by decide) (fun c41 => ?_) (fun c41 => ?_)
          · have h := h.1 c41
            refine x_iconst (pc := 214) (v := 1) dX7_command_214 (by decide) ?_
            refine x_goto (pc := 215) (tgt := 219) dX7_command_215 (by decide) ?_
            exact x_endZ (pc := 219) dX7_command_219 rfl (Or.inr rfl) h
          · have h := h.2 c41
            refine x_aload_n (pc := 199) dX7_command_199 0 rfl rfl ?_
            refine x_get (pc := 200) 327 21 dX7_command_200 (mK hG (by decide)) (mc_327 hG _) rfl inX7 (by decide) tb_732 rfl rfl ?_
            refine x_iload_n (pc := 203) dX7_command_203 2 rfl rfl ?_
            have n42 := h.1
            refine x_iald (pc := 204) 342 dX7_command_204 (mK hG (by decide)) (mc_342 hG _) n42 ?_
            have h := h.2
            refine x_aload_n (pc := 205) dX7_command_205 0 rfl rfl ?_
            refine x_get (pc := 206) 327 21 dX7_command_206 (mK hG (by decide)) (mc_327 hG _) rfl inX7 (by decide) tb_732 rfl rfl ?_
            refine x_iload_n (pc := 209) dX7_command_209 3 rfl rfl ?_
            have n43 := h.1
            refine x_iald (pc := 210) 342 dX7_command_210 (mK hG (by decide)) (mc_342 hG _) n43 ?_
            have h := h.2
            refine x_icmp_ge (pc := 211) (tgt := 218) dX7_command_211 (by decide) (fun c44 => ?_) (fun c44 => ?_)
            · have h := h.1 c44
              refine x_iconst (pc := 218) (v := 0) dX7_command_218 (by decide) ?_
              exact x_endZ (pc := 219) dX7_command_219 rfl (Or.inl rfl) h
            · have h := h.2 c44
              refine x_iconst (pc := 214) (v := 1) dX7_command_214 (by decide) ?_
              refine x_goto (pc := 215) (tgt := 219) dX7_command_215 (by decide) ?_
              exact x_endZ (pc := 219) dX7_command_219 rfl (Or.inr rfl) h
      · have h := h.2 c32
        refine x_iconst (pc := 166) (v := 0) dX7_command_166 (by decide) ?_
        exact x_endZ (pc := 167) dX7_command_167 rfl (Or.inl rfl) h
  have h := h.2
  have h := h c1_1 c1_2 c1_3 c1_4 c1_5
  refine x_tableOut (pc := 37) (tgt := 220) dX7_command_37 (by clear h; omega) (by decide) ?_
  refine x_iconst (pc := 220) (v := 0) dX7_command_220 (by decide) ?_
  exact x_endZ (pc := 221) dX7_command_221 rfl (Or.inl rfl) h
set_option maxRecDepth 100000 in
set_option maxHeartbeats 4000000 in
theorem t_X7_hundredThousands_0 {l : Launch} {G : Gx} {P : Int64 → Mem → Prop}  (a0 : Int32) (mem : Mem)
    (h : XL l M_X7_hundredThousands G P mem 4 [(0, .int a0), (1, .long 1), (3, .int 0)] []) :
    XL l M_X7_hundredThousands G P mem 0 [(0, .int a0)] [] := by
  refine x_lconst (pc := 0) (v := 1) dX7_hundredThousands_0 rfl ?_
  refine x_lstore_n (pc := 1) dX7_hundredThousands_1 rfl (by decide) rfl ?_
  refine x_iconst (pc := 2) (v := 0) dX7_hundredThousands_2 (by decide) ?_
  refine x_istore_n (pc := 3) dX7_hundredThousands_3 rfl (by decide) rfl ?_
  exact x_sub [2, 1, 0] rfl h
set_option maxRecDepth 100000 in
set_option maxHeartbeats 4000000 in
theorem t_X7_hundredThousands_4 {l : Launch} {G : Gx} {P : Int64 → Mem → Prop}  (a0 : Int32) (a1 : Int64) (a3 : Int32) (mem : Mem)
    (h : (a0 ≤ a3 → (P a1 mem)) ∧ (¬ a0 ≤ a3 → (XL l M_X7_hundredThousands G P mem 4 [(0, .int a0), (1, .long (a1 * 100000)), (3, .int (a3 + 1))] []))) :
    XL l M_X7_hundredThousands G P mem 4 [(0, .int a0), (1, .long a1), (3, .int a3)] [] := by
  refine x_iload_n (pc := 4) dX7_hundredThousands_4 2 rfl rfl ?_
  refine x_iload_n (pc := 5) dX7_hundredThousands_5 0 rfl rfl ?_
  refine x_icmp_ge (pc := 6) (tgt := 21) dX7_hundredThousands_6 (by decide) (fun c1 => ?_) (fun c1 => ?_)
  · have h := h.1 c1
    refine x_lload_n (pc := 21) dX7_hundredThousands_21 1 rfl rfl ?_
    exact x_endL (pc := 22) dX7_hundredThousands_22 rfl h
  · have h := h.2 c1
    refine x_lload_n (pc := 9) dX7_hundredThousands_9 1 rfl rfl ?_
    refine x_ldc2 (pc := 10) (v := 100000) dX7_hundredThousands_10 tb_1026 ?_
    refine x_lmul (pc := 13) dX7_hundredThousands_13 ?_
    refine x_lstore_n (pc := 14) dX7_hundredThousands_14 rfl (by decide) rfl ?_
    refine x_iinc (pc := 15) (v := (a3 + 1)) dX7_hundredThousands_15 (k := 2) rfl rfl (by decide) rfl ?_
    refine x_goto (pc := 18) (tgt := 4) dX7_hundredThousands_18 (by decide) ?_
    exact x_sub [2, 1, 0] rfl h
set_option maxRecDepth 100000 in
set_option maxHeartbeats 4000000 in
theorem t_X7_runScript_0 {l : Launch} {G : Gx} {P : Int32 → Mem → Prop} (hG : Mn G) (a1 : Int32) (a2 : Int64) (mem : Mem)
    (h : ∃ Q1 : Int32 → Mem → Prop, CtI l M_X7_in G [.long ((a1 : Int32).toInt64), .long 1, .long 3] mem Q1 ∧ ∀ (r3 : Int32) (m4 : Mem), Q1 r3 m4 → ((r3 = 0 → (P (-2) m4)) ∧ (¬ r3 = 0 → (∃ Q7 : Int64 → Mem → Prop, CtL l M_X7_hundredThousands G [.int a1] m4 Q7 ∧ ∀ (r9 : Int64) (m10 : Mem), Q7 r9 m10 → (∃ Q12 : Int32 → Mem → Prop, CtI l M_X7_in G [.long a2, .long 0, .long (r9 - 1)] m10 Q12 ∧ ∀ (r14 : Int32) (m15 : Mem), Q12 r14 m15 → ((¬ r14 = 0 → (∃ Q18 : Mem → Prop, CtV l M_X7_copy G [.ref (gA G 329), .ref (gA G 330)] m15 Q18 ∧ ∀ m21 : Mem, Q18 m21 → (XI l M_X7_runScript G P m21 43 [(0, .ref (gA G 327)), (1, .int a1), (2, .long a2), (4, .int 0)] []))) ∧ (r14 = 0 → (P (-2) m15)))))))) :
    XI l M_X7_runScript G P mem 0 [(0, .ref (gA G 327)), (1, .int a1), (2, .long a2)] [] := by
  refine x_iload_n (pc := 0) dX7_runScript_0 1 rfl rfl ?_
  refine x_i2l (pc := 1) dX7_runScript_1 ?_
  refine x_lconst (pc := 2) (v := 1) dX7_runScript_2 rfl ?_
  refine x_ldc2 (pc := 3) (v := 3) dX7_runScript_3 tb_1022 ?_
  obtain ⟨Q1, hc2, h⟩ := h
  refine x_callSI (pc := 6) hc2 ok_X7_in dX7_runScript_6 tb_789 ⟨⟨rfl, rfl⟩, ⟨by decide, by decide⟩, by decide, by decide⟩ rfl rfl (Nat.le_of_ble_eq_true rfl) (fun r3 m4 q5 => ?_)
  have h := h r3 m4 q5
  refine x_if_eq (pc := 9) (tgt := 26) dX7_runScript_9 (by decide) (fun c6 => ?_) (fun c6 => ?_)
  · have h := h.1 c6
    refine x_bipush (pc := 26) (v := (-2)) dX7_runScript_26 (by decide) ?_
    exact x_endI (pc := 28) dX7_runScript_28 rfl h
  · have h := h.2 c6
    refine x_lload_n (pc := 12) dX7_runScript_12 2 rfl rfl ?_
    refine x_lconst (pc := 13) (v := 0) dX7_runScript_13 rfl ?_
    refine x_iload_n (pc := 14) dX7_runScript_14 1 rfl rfl ?_
    obtain ⟨Q7, hc8, h⟩ := h
    refine x_callSL (pc := 15) hc8 ok_X7_hundredThousands dX7_runScript_15 tb_1023 ⟨⟨rfl, rfl⟩, ⟨by decide, by decide⟩, by decide, by decide⟩ rfl rfl (Nat.le_of_ble_eq_true rfl) (fun r9 m10 q11 => ?_)
    have h := h r9 m10 q11
    refine x_lconst (pc := 18) (v := 1) dX7_runScript_18 rfl ?_
    refine x_lsub (pc := 19) dX7_runScript_19 ?_
    obtain ⟨Q12, hc13, h⟩ := h
    refine x_callSI (pc := 20) hc13 ok_X7_in dX7_runScript_20 tb_789 ⟨⟨rfl, rfl⟩, ⟨by decide, by decide⟩, by decide, by decide⟩ rfl rfl (Nat.le_of_ble_eq_true rfl) (fun r14 m15 q16 => ?_)
    have h := h r14 m15 q16
    refine x_if_ne (pc := 23) (tgt := 29) dX7_runScript_23 (by decide) (fun c17 => ?_) (fun c17 => ?_)
    · have h := h.1 c17
      refine x_aload_n (pc := 29) dX7_runScript_29 0 rfl rfl ?_
      refine x_get (pc := 30) 327 5 dX7_runScript_30 (mK hG (by decide)) (mc_327 hG _) rfl inX7 (by decide) tb_716 rfl rfl ?_
      refine x_aload_n (pc := 33) dX7_runScript_33 0 rfl rfl ?_
      refine x_get (pc := 34) 327 6 dX7_runScript_34 (mK hG (by decide)) (mc_327 hG _) rfl inX7 (by decide) tb_717 rfl rfl ?_
      obtain ⟨Q18, hc19, h⟩ := h
      refine x_callSV (pc := 37) hc19 ok_X7_copy dX7_runScript_37 tb_838 ⟨⟨rfl, rfl⟩, ⟨by decide, by decide⟩, by decide, by decide⟩ rfl rfl (Nat.le_of_ble_eq_true rfl) (fun m21 q22 => ?_)
      have h := h m21 q22
      refine x_iconst (pc := 40) (v := 0) dX7_runScript_40 (by decide) ?_
      refine x_istore (pc := 41) dX7_runScript_41 (by decide) rfl ?_
      exact x_sub [1, 2, 3, 0] rfl h
    · have h := h.2 c17
      refine x_bipush (pc := 26) (v := (-2)) dX7_runScript_26 (by decide) ?_
      exact x_endI (pc := 28) dX7_runScript_28 rfl h
set_option maxRecDepth 100000 in
set_option maxHeartbeats 4000000 in
theorem t_X7_runScript_43 {l : Launch} {G : Gx} {P : Int32 → Mem → Prop} (hG : Mn G) (a1 : Int32) (a2 : Int64) (a4 : Int32) (mem : Mem)
    (h : (a1 ≤ a4 → (P (-9) mem)) ∧ (¬ a1 ≤ a4 → (∃ Q2 : Int64 → Mem → Prop, CtL l M_X7_hundredThousands G [.int ((a1 - 1) - a4)] mem Q2 ∧ ∀ (r4 : Int64) (m5 : Mem), Q2 r4 m5 → (¬ r4 = 0 ∧ (∃ Q7 : Int32 → Mem → Prop, CtI l M_X7_command G [.ref (gA G 327), .int (((((a2 / r4) - (a2 / r4) / 100000 * 100000) : Int64).toInt32) / 10000), .int ((((((a2 / r4) - (a2 / r4) / 100000 * 100000) : Int64).toInt32) / 100) - (((((a2 / r4) - (a2 / r4) / 100000 * 100000) : Int64).toInt32) / 100) / 100 * 100), .int (((((a2 / r4) - (a2 / r4) / 100000 * 100000) : Int64).toInt32) - ((((a2 / r4) - (a2 / r4) / 100000 * 100000) : Int64).toInt32) / 100 * 100)] m5 Q7 ∧ ∀ (r9 : Int32) (m10 : Mem), Q7 r9 m10 → ((¬ r9 = 0 → (XI l M_X7_runScript G P m10 43 [(0, .ref (gA G 327)), (1, .int a1), (2, .long a2), (4, .int (a4 + 1))] [])) ∧ (r9 = 0 → (P a4 m10)))))))) :
    XI l M_X7_runScript G P mem 43 [(0, .ref (gA G 327)), (1, .int a1), (2, .long a2), (4, .int a4)] [] := by
  refine x_iload (pc := 43) dX7_runScript_43 3 rfl ?_
  refine x_iload_n (pc := 45) dX7_runScript_45 1 rfl rfl ?_
  refine x_icmp_ge (pc := 46) (tgt := 102) dX7_runScript_46 (by decide) (fun c1 => ?_) (fun c1 => ?_)
  · have h := h.1 c1
    refine x_bipush (pc := 102) (v := (-9)) dX7_runScript_102 (by decide) ?_
    exact x_endI (pc := 104) dX7_runScript_104 rfl h
  · have h := h.2 c1
    refine x_lload_n (pc := 49) dX7_runScript_49 2 rfl rfl ?_
    refine x_iload_n (pc := 50) dX7_runScript_50 1 rfl rfl ?_
    refine x_iconst (pc := 51) (v := 1) dX7_runScript_51 (by decide) ?_
    refine x_isub (pc := 52) dX7_runScript_52 ?_
    refine x_iload (pc := 53) dX7_runScript_53 3 rfl ?_
    refine x_isub (pc := 55) dX7_runScript_55 ?_
    obtain ⟨Q2, hc3, h⟩ := h
    refine x_callSL (pc := 56) hc3 ok_X7_hundredThousands dX7_runScript_56 tb_1023 ⟨⟨rfl, rfl⟩, ⟨by decide, by decide⟩, by decide, by decide⟩ rfl rfl (Nat.le_of_ble_eq_true rfl) (fun r4 m5 q6 => ?_)
    have h := h r4 m5 q6
    refine x_ldiv (pc := 59) dX7_runScript_59 h.1 ?_
    have h := h.2
    refine x_ldc2 (pc := 60) (v := 100000) dX7_runScript_60 tb_1026 ?_
    refine x_lrem (pc := 63) dX7_runScript_63 (by decide) ?_
    refine x_l2i (pc := 64) dX7_runScript_64 ?_
    refine x_istore (pc := 65) dX7_runScript_65 (by decide) rfl ?_
    refine x_aload_n (pc := 67) dX7_runScript_67 1 rfl rfl ?_
    refine x_iload (pc := 68) dX7_runScript_68 0 rfl ?_
    refine x_sipush (pc := 70) (v := 10000) dX7_runScript_70 (by decide) ?_
    refine x_idiv (pc := 73) dX7_runScript_73 (by decide) ?_
    refine x_iload (pc := 74) dX7_runScript_74 0 rfl ?_
    refine x_bipush (pc := 76) (v := 100) dX7_runScript_76 (by decide) ?_
    refine x_idiv (pc := 78) dX7_runScript_78 (by decide) ?_
    refine x_bipush (pc := 79) (v := 100) dX7_runScript_79 (by decide) ?_
    refine x_irem (pc := 81) dX7_runScript_81 (by decide) ?_
    refine x_iload (pc := 82) dX7_runScript_82 0 rfl ?_
    refine x_bipush (pc := 84) (v := 100) dX7_runScript_84 (by decide) ?_
    refine x_irem (pc := 86) dX7_runScript_86 (by decide) ?_
    obtain ⟨Q7, hc8, h⟩ := h
    refine x_callVI (pc := 87) 327 hc8 ok_X7_command dX7_runScript_87 tb_1027 ⟨⟨rfl, rfl⟩, ⟨by decide, by decide⟩, by decide, by decide⟩ (mK hG (by decide)) (mc_327 hG _) rfl (As := [.int (((((a2 / r4) - (a2 / r4) / 100000 * 100000) : Int64).toInt32) / 10000), .int ((((((a2 / r4) - (a2 / r4) / 100000 * 100000) : Int64).toInt32) / 100) - (((((a2 / r4) - (a2 / r4) / 100000 * 100000) : Int64).toInt32) / 100) / 100 * 100), .int (((((a2 / r4) - (a2 / r4) / 100000 * 100000) : Int64).toInt32) - ((((a2 / r4) - (a2 / r4) / 100000 * 100000) : Int64).toInt32) / 100 * 100)]) rfl rfl (Nat.le_of_ble_eq_true rfl) (fun r9 m10 q11 => ?_)
    have h := h r9 m10 q11
    refine x_if_ne (pc := 90) (tgt := 96) dX7_runScript_90 (by decide) (fun c12 => ?_) (fun c12 => ?_)
    · have h := h.1 c12
      refine x_iinc (pc := 96) (v := (a4 + 1)) dX7_runScript_96 (k := 4) rfl rfl (by decide) rfl ?_
      refine x_goto (pc := 99) (tgt := 43) dX7_runScript_99 (by decide) ?_
      exact x_sub [2, 3, 4, 0] rfl h
    · have h := h.2 c12
      refine x_iload (pc := 93) dX7_runScript_93 4 rfl ?_
      exact x_endI (pc := 95) dX7_runScript_95 rfl h
set_option maxRecDepth 100000 in
set_option maxHeartbeats 4000000 in
theorem t_X7_randomChanges_0 {l : Launch} {G : Gx} {P : Int32 → Mem → Prop} (hG : Mn G) (a1 : Int64) (a3 : Int32) (mem : Mem)
    (h : ∃ Q1 : Int32 → Mem → Prop, CtI l M_X7_in G [.long ((a3 : Int32).toInt64), .long 1, .long 60] mem Q1 ∧ ∀ (r3 : Int32) (m4 : Mem), Q1 r3 m4 → ((¬ r3 = 0 → (∃ Q7 : Mem → Prop, CtV l M_X7_copy G [.ref (gA G 329), .ref (gA G 330)] m4 Q7 ∧ ∀ m10 : Mem, Q7 m10 → (XI l M_X7_randomChanges G P m10 35 [(0, .ref (gA G 327)), (3, .int a3), (4, .long a1), (6, .int 0), (7, .int 0)] []))) ∧ (r3 = 0 → (P (-2) m4)))) :
    XI l M_X7_randomChanges G P mem 0 [(0, .ref (gA G 327)), (1, .long a1), (3, .int a3)] [] := by
  refine x_iload_n (pc := 0) dX7_randomChanges_0 2 rfl rfl ?_
  refine x_i2l (pc := 1) dX7_randomChanges_1 ?_
  refine x_lconst (pc := 2) (v := 1) dX7_randomChanges_2 rfl ?_
  refine x_ldc2 (pc := 3) (v := 60) dX7_randomChanges_3 tb_1035 ?_
  obtain ⟨Q1, hc2, h⟩ := h
  refine x_callSI (pc := 6) hc2 ok_X7_in dX7_randomChanges_6 tb_789 ⟨⟨rfl, rfl⟩, ⟨by decide, by decide⟩, by decide, by decide⟩ rfl rfl (Nat.le_of_ble_eq_true rfl) (fun r3 m4 q5 => ?_)
  have h := h r3 m4 q5
  refine x_if_ne (pc := 9) (tgt := 15) dX7_randomChanges_9 (by decide) (fun c6 => ?_) (fun c6 => ?_)
  · have h := h.1 c6
    refine x_aload_n (pc := 15) dX7_randomChanges_15 0 rfl rfl ?_
    refine x_get (pc := 16) 327 5 dX7_randomChanges_16 (mK hG (by decide)) (mc_327 hG _) rfl inX7 (by decide) tb_716 rfl rfl ?_
    refine x_aload_n (pc := 19) dX7_randomChanges_19 0 rfl rfl ?_
    refine x_get (pc := 20) 327 6 dX7_randomChanges_20 (mK hG (by decide)) (mc_327 hG _) rfl inX7 (by decide) tb_717 rfl rfl ?_
    obtain ⟨Q7, hc8, h⟩ := h
    refine x_callSV (pc := 23) hc8 ok_X7_copy dX7_randomChanges_23 tb_838 ⟨⟨rfl, rfl⟩, ⟨by decide, by decide⟩, by decide, by decide⟩ rfl rfl (Nat.le_of_ble_eq_true rfl) (fun m10 q11 => ?_)
    have h := h m10 q11
    refine x_lload_n (pc := 26) dX7_randomChanges_26 1 rfl rfl ?_
    refine x_lstore (pc := 27) dX7_randomChanges_27 (by decide) rfl ?_
    refine x_iconst (pc := 29) (v := 0) dX7_randomChanges_29 (by decide) ?_
    refine x_istore (pc := 30) dX7_randomChanges_30 (by decide) rfl ?_
    refine x_iconst (pc := 32) (v := 0) dX7_randomChanges_32 (by decide) ?_
    refine x_istore (pc := 33) dX7_randomChanges_33 (by decide) rfl ?_
    exact x_sub [3, 5, 2, 1, 0] rfl h
  · have h := h.2 c6
    refine x_bipush (pc := 12) (v := (-2)) dX7_randomChanges_12 (by decide) ?_
    exact x_endI (pc := 14) dX7_randomChanges_14 rfl h
set_option maxRecDepth 100000 in
set_option maxHeartbeats 4000000 in
theorem t_X7_randomChanges_35 {l : Launch} {G : Gx} {P : Int32 → Mem → Prop} (hG : Mn G) (a3 : Int32) (a4 : Int64) (a6 : Int32) (a7 : Int32) (mem : Mem)
    (h : (a3 ≤ a7 → (P a6 mem)) ∧ (¬ a3 ≤ a7 → (XI l M_X7_randomChanges G P mem 61 [(0, .ref (gA G 327)), (3, .int a3), (4, .long ((a4 * 6364136223846793005) + 1442695040888963407)), (6, .int a6), (7, .int a7), (8, .int ((((((a4 * 6364136223846793005) + 1442695040888963407).toUInt64 >>> ((33 : Int32).toInt64.toUInt64 &&& Int64.toUInt64 63)).toInt64) : Int64).toInt32))] []))) :
    XI l M_X7_randomChanges G P mem 35 [(0, .ref (gA G 327)), (3, .int a3), (4, .long a4), (6, .int a6), (7, .int a7)] [] := by
  refine x_iload (pc := 35) dX7_randomChanges_35 4 rfl ?_
  refine x_iload_n (pc := 37) dX7_randomChanges_37 1 rfl rfl ?_
  refine x_icmp_ge (pc := 38) (tgt := 185) dX7_randomChanges_38 (by decide) (fun c1 => ?_) (fun c1 => ?_)
  · have h := h.1 c1
    refine x_iload (pc := 185) dX7_randomChanges_185 3 rfl ?_
    exact x_endI (pc := 187) dX7_randomChanges_187 rfl h
  · have h := h.2 c1
    refine x_lload (pc := 41) dX7_randomChanges_41 2 rfl ?_
    refine x_ldc2 (pc := 43) (v := 6364136223846793005) dX7_randomChanges_43 tb_1036 ?_
    refine x_lmul (pc := 46) dX7_randomChanges_46 ?_
    refine x_ldc2 (pc := 47) (v := 1442695040888963407) dX7_randomChanges_47 tb_1037 ?_
    refine x_ladd (pc := 50) dX7_randomChanges_50 ?_
    refine x_lstore (pc := 51) dX7_randomChanges_51 (by decide) rfl ?_
    refine x_lload (pc := 53) dX7_randomChanges_53 0 rfl ?_
    refine x_bipush (pc := 55) (v := 33) dX7_randomChanges_55 (by decide) ?_
    refine x_lushr (pc := 57) dX7_randomChanges_57 ?_
    refine x_l2i (pc := 58) dX7_randomChanges_58 ?_
    refine x_istore (pc := 59) dX7_randomChanges_59 (by decide) rfl ?_
    exact x_sub [2, 3, 1, 4, 5, 0] rfl h
set_option maxRecDepth 100000 in
set_option maxHeartbeats 4000000 in
theorem t_X7_randomChanges_61 {l : Launch} {G : Gx} {P : Int32 → Mem → Prop} (hG : Mn G) (a3 : Int32) (a4 : Int64) (a6 : Int32) (a7 : Int32) (a8 : Int32) (mem : Mem)
    (h : ¬ (mem 327 3) = 0 ∧ (¬ (mem 327 3) = 0 ∧ (XI l M_X7_randomChanges G P mem 95 [(0, .ref (gA G 327)), (3, .int a3), (4, .long a4), (6, .int a6), (7, .int a7), (9, .int (a8 - a8 / (mem 327 3) * (mem 327 3))), (10, .int ((a8 / 16) - (a8 / 16) / (mem 327 3) * (mem 327 3))), (11, .int (((a8 / 256) - (a8 / 256) / 99 * 99) + 1))] []))) :
    XI l M_X7_randomChanges G P mem 61 [(0, .ref (gA G 327)), (3, .int a3), (4, .long a4), (6, .int a6), (7, .int a7), (8, .int a8)] [] := by
  refine x_iload (pc := 61) dX7_randomChanges_61 5 rfl ?_
  refine x_aload_n (pc := 63) dX7_randomChanges_63 0 rfl rfl ?_
  refine x_get (pc := 64) 327 3 dX7_randomChanges_64 (mK hG (by decide)) (mc_327 hG _) rfl inX7 (by decide) tb_714 rfl rfl ?_
  refine x_irem (pc := 67) dX7_randomChanges_67 h.1 ?_
  have h := h.2
  refine x_istore (pc := 68) dX7_randomChanges_68 (by decide) rfl ?_
  refine x_iload (pc := 70) dX7_randomChanges_70 6 rfl ?_
  refine x_bipush (pc := 72) (v := 16) dX7_randomChanges_72 (by decide) ?_
  refine x_idiv (pc := 74) dX7_randomChanges_74 (by decide) ?_
  refine x_aload_n (pc := 75) dX7_randomChanges_75 1 rfl rfl ?_
  refine x_get (pc := 76) 327 3 dX7_randomChanges_76 (mK hG (by decide)) (mc_327 hG _) rfl inX7 (by decide) tb_714 rfl rfl ?_
  refine x_irem (pc := 79) dX7_randomChanges_79 h.1 ?_
  have h := h.2
  refine x_istore (pc := 80) dX7_randomChanges_80 (by decide) rfl ?_
  refine x_iload (pc := 82) dX7_randomChanges_82 7 rfl ?_
  refine x_sipush (pc := 84) (v := 256) dX7_randomChanges_84 (by decide) ?_
  refine x_idiv (pc := 87) dX7_randomChanges_87 (by decide) ?_
  refine x_bipush (pc := 88) (v := 99) dX7_randomChanges_88 (by decide) ?_
  refine x_irem (pc := 90) dX7_randomChanges_90 (by decide) ?_
  refine x_iconst (pc := 91) (v := 1) dX7_randomChanges_91 (by decide) ?_
  refine x_iadd (pc := 92) dX7_randomChanges_92 ?_
  refine x_istore (pc := 93) dX7_randomChanges_93 (by decide) rfl ?_
  exact x_sub [3, 4, 5, 6, 7, 2, 1, 0] rfl h
set_option maxRecDepth 100000 in
set_option maxHeartbeats 4000000 in
theorem t_X7_randomChanges_95 {l : Launch} {G : Gx} {P : Int32 → Mem → Prop} (hG : Mn G) (a3 : Int32) (a4 : Int64) (a6 : Int32) (a7 : Int32) (a9 : Int32) (a10 : Int32) (a11 : Int32) (mem : Mem)
    (h : ∃ Q1 : Int32 → Mem → Prop, CtI l M_X7_at G [.int a9, .int a10] mem Q1 ∧ ∀ (r3 : Int32) (m4 : Mem), Q1 r3 m4 → (vp_in r3 156 ∧ (((m4 330 r3.toNatClampNeg) ≤ 0 → (∃ Q8 : Int32 → Mem → Prop, CtI l M_X7_isOneTree G [.ref (gA G 327), .ref (gA G 330), .int a9, .int a10] m4 Q8 ∧ ∀ (r10 : Int32) (m11 : Mem), Q8 r10 m11 → ((¬ r10 = 0 → (XI l M_X7_randomChanges G P m11 165 [(0, .ref (gA G 327)), (3, .int a3), (4, .long a4), (6, .int a6), (7, .int a7)] [])) ∧ (r10 = 0 → (∃ Q14 : Mem → Prop, CtV l M_X7_join G [.ref (gA G 330), .int a9, .int a10, .int a11] m11 Q14 ∧ ∀ m17 : Mem, Q14 m17 → (XI l M_X7_randomChanges G P m17 165 [(0, .ref (gA G 327)), (3, .int a3), (4, .long a4), (6, .int a6), (7, .int a7)] [])))))) ∧ (¬ (m4 330 r3.toNatClampNeg) ≤ 0 → ((¬ (a11 - a11 / 2 * 2) = 0 → (∃ Q20 : Mem → Prop, CtV l M_X7_join G [.ref (gA G 330), .int a9, .int a10, .int a11] m4 Q20 ∧ ∀ m23 : Mem, Q20 m23 → (XI l M_X7_randomChanges G P m23 165 [(0, .ref (gA G 327)), (3, .int a3), (4, .long a4), (6, .int a6), (7, .int a7)] []))) ∧ ((a11 - a11 / 2 * 2) = 0 → (∃ Q25 : Mem → Prop, CtV l M_X7_join G [.ref (gA G 330), .int a9, .int a10, .int 0] m4 Q25 ∧ ∀ m28 : Mem, Q25 m28 → (XI l M_X7_randomChanges G P m28 165 [(0, .ref (gA G 327)), (3, .int a3), (4, .long a4), (6, .int a6), (7, .int a7)] [])))))))) :
    XI l M_X7_randomChanges G P mem 95 [(0, .ref (gA G 327)), (3, .int a3), (4, .long a4), (6, .int a6), (7, .int a7), (9, .int a9), (10, .int a10), (11, .int a11)] [] := by
  refine x_aload_n (pc := 95) dX7_randomChanges_95 0 rfl rfl ?_
  refine x_get (pc := 96) 327 6 dX7_randomChanges_96 (mK hG (by decide)) (mc_327 hG _) rfl inX7 (by decide) tb_717 rfl rfl ?_
  refine x_iload (pc := 99) dX7_randomChanges_99 5 rfl ?_
  refine x_iload (pc := 101) dX7_randomChanges_101 6 rfl ?_
  obtain ⟨Q1, hc2, h⟩ := h
  refine x_callSI (pc := 103) hc2 ok_X7_at dX7_randomChanges_103 tb_828 ⟨⟨rfl, rfl⟩, ⟨by decide, by decide⟩, by decide, by decide⟩ rfl rfl (Nat.le_of_ble_eq_true rfl) (fun r3 m4 q5 => ?_)
  have h := h r3 m4 q5
  have n6 := h.1
  refine x_iald (pc := 106) 330 dX7_randomChanges_106 (mK hG (by decide)) (mc_330 hG _) n6 ?_
  have h := h.2
  refine x_if_le (pc := 107) (tgt := 137) dX7_randomChanges_107 (by decide) (fun c7 => ?_) (fun c7 => ?_)
  · have h := h.1 c7
    refine x_aload_n (pc := 137) dX7_randomChanges_137 0 rfl rfl ?_
    refine x_aload_n (pc := 138) dX7_randomChanges_138 0 rfl rfl ?_
    refine x_get (pc := 139) 327 6 dX7_randomChanges_139 (mK hG (by decide)) (mc_327 hG _) rfl inX7 (by decide) tb_717 rfl rfl ?_
    refine x_iload (pc := 142) dX7_randomChanges_142 5 rfl ?_
    refine x_iload (pc := 144) dX7_randomChanges_144 6 rfl ?_
    obtain ⟨Q8, hc9, h⟩ := h
    refine x_callVI (pc := 146) 327 hc9 ok_X7_isOneTree dX7_randomChanges_146 tb_816 ⟨⟨rfl, rfl⟩, ⟨by decide, by decide⟩, by decide, by decide⟩ (mK hG (by decide)) (mc_327 hG _) rfl (As := [.ref (gA G 330), .int a9, .int a10]) rfl rfl (Nat.le_of_ble_eq_true rfl) (fun r10 m11 q12 => ?_)
    have h := h r10 m11 q12
    refine x_if_ne (pc := 149) (tgt := 165) dX7_randomChanges_149 (by decide) (fun c13 => ?_) (fun c13 => ?_)
    · have h := h.1 c13
      exact x_sub [0, 1, 2, 3, 4] rfl h
    · have h := h.2 c13
      refine x_aload_n (pc := 152) dX7_randomChanges_152 0 rfl rfl ?_
      refine x_get (pc := 153) 327 6 dX7_randomChanges_153 (mK hG (by decide)) (mc_327 hG _) rfl inX7 (by decide) tb_717 rfl rfl ?_
      refine x_iload (pc := 156) dX7_randomChanges_156 5 rfl ?_
      refine x_iload (pc := 158) dX7_randomChanges_158 6 rfl ?_
      refine x_iload (pc := 160) dX7_randomChanges_160 7 rfl ?_
      obtain ⟨Q14, hc15, h⟩ := h
      refine x_callSV (pc := 162) hc15 ok_X7_join dX7_randomChanges_162 tb_831 ⟨⟨rfl, rfl⟩, ⟨by decide, by decide⟩, by decide, by decide⟩ rfl rfl (Nat.le_of_ble_eq_true rfl) (fun m17 q18 => ?_)
      have h := h m17 q18
      exact x_sub [0, 1, 2, 3, 4] rfl h
  · have h := h.2 c7
    refine x_aload_n (pc := 110) dX7_randomChanges_110 0 rfl rfl ?_
    refine x_get (pc := 111) 327 6 dX7_randomChanges_111 (mK hG (by decide)) (mc_327 hG _) rfl inX7 (by decide) tb_717 rfl rfl ?_
    refine x_iload (pc := 114) dX7_randomChanges_114 5 rfl ?_
    refine x_iload (pc := 116) dX7_randomChanges_116 6 rfl ?_
    refine x_iload (pc := 118) dX7_randomChanges_118 7 rfl ?_
    refine x_iconst (pc := 120) (v := 2) dX7_randomChanges_120 (by decide) ?_
    refine x_irem (pc := 121) dX7_randomChanges_121 (by decide) ?_
    refine x_if_ne (pc := 122) (tgt := 129) dX7_randomChanges_122 (by decide) (fun c19 => ?_) (fun c19 => ?_)
    · have h := h.1 c19
      refine x_iload (pc := 129) dX7_randomChanges_129 7 rfl ?_
      obtain ⟨Q20, hc21, h⟩ := h
      refine x_callSV (pc := 131) hc21 ok_X7_join dX7_randomChanges_131 tb_831 ⟨⟨rfl, rfl⟩, ⟨by decide, by decide⟩, by decide, by decide⟩ rfl rfl (Nat.le_of_ble_eq_true rfl) (fun m23 q24 => ?_)
      have h := h m23 q24
      refine x_goto (pc := 134) (tgt := 165) dX7_randomChanges_134 (by decide) ?_
      exact x_sub [0, 1, 2, 3, 4] rfl h
    · have h := h.2 c19
      refine x_iconst (pc := 125) (v := 0) dX7_randomChanges_125 (by decide) ?_
      refine x_goto (pc := 126) (tgt := 131) dX7_randomChanges_126 (by decide) ?_
      obtain ⟨Q25, hc26, h⟩ := h
      refine x_callSV (pc := 131) hc26 ok_X7_join dX7_randomChanges_131 tb_831 ⟨⟨rfl, rfl⟩, ⟨by decide, by decide⟩, by decide, by decide⟩ rfl rfl (Nat.le_of_ble_eq_true rfl) (fun m28 q29 => ?_)
      have h := h m28 q29
      refine x_goto (pc := 134) (tgt := 165) dX7_randomChanges_134 (by decide) ?_
      exact x_sub [0, 1, 2, 3, 4] rfl h
set_option maxRecDepth 100000 in
set_option maxHeartbeats 4000000 in
theorem t_X7_randomChanges_165 {l : Launch} {G : Gx} {P : Int32 → Mem → Prop} (hG : Mn G) (a3 : Int32) (a4 : Int64) (a6 : Int32) (a7 : Int32) (mem : Mem)
    (h : ∃ Q1 : Int32 → Mem → Prop, CtI l M_X7_diameterOf G [.ref (gA G 327), .ref (gA G 330), .int 0] mem Q1 ∧ ∀ (r3 : Int32) (m4 : Mem), Q1 r3 m4 → (XI l M_X7_randomChanges G P m4 35 [(0, .ref (gA G 327)), (3, .int a3), (4, .long a4), (6, .int (a6 + r3)), (7, .int (a7 + 1))] [])) :
    XI l M_X7_randomChanges G P mem 165 [(0, .ref (gA G 327)), (3, .int a3), (4, .long a4), (6, .int a6), (7, .int a7)] [] := by
  refine x_iload (pc := 165) dX7_randomChanges_165 3 rfl ?_
  refine x_aload_n (pc := 167) dX7_randomChanges_167 0 rfl rfl ?_
  refine x_aload_n (pc := 168) dX7_randomChanges_168 0 rfl rfl ?_
  refine x_get (pc := 169) 327 6 dX7_randomChanges_169 (mK hG (by decide)) (mc_327 hG _) rfl inX7 (by decide) tb_717 rfl rfl ?_
  refine x_iconst (pc := 172) (v := 0) dX7_randomChanges_172 (by decide) ?_
  obtain ⟨Q1, hc2, h⟩ := h
  refine x_callVI (pc := 173) 327 hc2 ok_X7_diameterOf dX7_randomChanges_173 tb_913 ⟨⟨rfl, rfl⟩, ⟨by decide, by decide⟩, by decide, by decide⟩ (mK hG (by decide)) (mc_327 hG _) rfl (As := [.ref (gA G 330), .int 0]) rfl rfl (Nat.le_of_ble_eq_true rfl) (fun r3 m4 q5 => ?_)
  have h := h r3 m4 q5
  refine x_iadd (pc := 176) dX7_randomChanges_176 ?_
  refine x_istore (pc := 177) dX7_randomChanges_177 (by decide) rfl ?_
  refine x_iinc (pc := 179) (v := (a7 + 1)) dX7_randomChanges_179 (k := 4) rfl rfl (by decide) rfl ?_
  refine x_goto (pc := 182) (tgt := 35) dX7_randomChanges_182 (by decide) ?_
  exact x_sub [2, 3, 4, 1, 0] rfl h
set_option maxRecDepth 100000 in
set_option maxHeartbeats 4000000 in
theorem t_X7_save_0 {l : Launch} {G : Gx} {P : Int32 → Mem → Prop} (hG : Mn G) (a1 : Int32) (mem : Mem)
    (h : ∃ Q1 : Int32 → Mem → Prop, CtI l M_X7_in G [.long ((a1 : Int32).toInt64), .long 0, .long 1] mem Q1 ∧ ∀ (r3 : Int32) (m4 : Mem), Q1 r3 m4 → ((¬ r3 = 0 → (vp_in a1 2 ∧ (XI l M_X7_save G P (wr m4 334 a1.toNatClampNeg 1) 21 [(0, .ref (gA G 327)), (1, .int a1), (2, .int 0)] []))) ∧ (r3 = 0 → (P (-1) m4)))) :
    XI l M_X7_save G P mem 0 [(0, .ref (gA G 327)), (1, .int a1)] [] := by
  refine x_iload_n (pc := 0) dX7_save_0 1 rfl rfl ?_
  refine x_i2l (pc := 1) dX7_save_1 ?_
  refine x_lconst (pc := 2) (v := 0) dX7_save_2 rfl ?_
  refine x_lconst (pc := 3) (v := 1) dX7_save_3 rfl ?_
  obtain ⟨Q1, hc2, h⟩ := h
  refine x_callSI (pc := 4) hc2 ok_X7_in dX7_save_4 tb_789 ⟨⟨rfl, rfl⟩, ⟨by decide, by decide⟩, by decide, by decide⟩ rfl rfl (Nat.le_of_ble_eq_true rfl) (fun r3 m4 q5 => ?_)
  have h := h r3 m4 q5
  refine x_if_ne (pc := 7) (tgt := 12) dX7_save_7 (by decide) (fun c6 => ?_) (fun c6 => ?_)
  · have h := h.1 c6
    refine x_aload_n (pc := 12) dX7_save_12 0 rfl rfl ?_
    refine x_get (pc := 13) 327 12 dX7_save_13 (mK hG (by decide)) (mc_327 hG _) rfl inX7 (by decide) tb_723 rfl rfl ?_
    refine x_iload_n (pc := 16) dX7_save_16 1 rfl rfl ?_
    refine x_iconst (pc := 17) (v := 1) dX7_save_17 (by decide) ?_
    have n7 := h.1
    have h := h.2
    refine x_zast (pc := 18) 334 dX7_save_18 (mK hG (by decide)) (mc_334 hG) n7 (Or.inr rfl) ?_
    refine x_iconst (pc := 19) (v := 0) dX7_save_19 (by decide) ?_
    refine x_istore_n (pc := 20) dX7_save_20 rfl (by decide) rfl ?_
    exact x_sub [1, 2, 0] rfl h
  · have h := h.2 c6
    refine x_iconst (pc := 10) (v := (-1)) dX7_save_10 (by decide) ?_
    exact x_endI (pc := 11) dX7_save_11 rfl h
set_option maxRecDepth 100000 in
set_option maxHeartbeats 4000000 in
theorem t_X7_save_21 {l : Launch} {G : Gx} {P : Int32 → Mem → Prop} (hG : Mn G) (a1 : Int32) (a2 : Int32) (mem : Mem)
    (h : (156 ≤ a2 → (∃ Q2 : Int32 → Mem → Prop, CtI l M_X7_edgesOf G [.ref (gA G 329)] mem Q2 ∧ ∀ (r4 : Int32) (m5 : Mem), Q2 r4 m5 → (P r4 m5))) ∧ (¬ 156 ≤ a2 → (vp_in a2 156 ∧ (vp_in ((156 * a1) + a2) 312 ∧ (XI l M_X7_save G P (wr mem 333 (((156 * a1) + a2).toNatClampNeg) (mem 329 a2.toNatClampNeg)) 21 [(0, .ref (gA G 327)), (1, .int a1), (2, .int (a2 + 1))] []))))) :
    XI l M_X7_save G P mem 21 [(0, .ref (gA G 327)), (1, .int a1), (2, .int a2)] [] := by
  refine x_iload_n (pc := 21) dX7_save_21 2 rfl rfl ?_
  refine x_sipush (pc := 22) (v := 156) dX7_save_22 (by decide) ?_
  refine x_icmp_ge (pc := 25) (tgt := 52) dX7_save_25 (by decide) (fun c1 => ?_) (fun c1 => ?_)
  · have h := h.1 c1
    refine x_aload_n (pc := 52) dX7_save_52 0 rfl rfl ?_
    refine x_get (pc := 53) 327 5 dX7_save_53 (mK hG (by decide)) (mc_327 hG _) rfl inX7 (by decide) tb_716 rfl rfl ?_
    obtain ⟨Q2, hc3, h⟩ := h
    refine x_callSI (pc := 56) hc3 ok_X7_edgesOf dX7_save_56 tb_841 ⟨⟨rfl, rfl⟩, ⟨by decide, by decide⟩, by decide, by decide⟩ rfl rfl (Nat.le_of_ble_eq_true rfl) (fun r4 m5 q6 => ?_)
    have h := h r4 m5 q6
    exact x_endI (pc := 59) dX7_save_59 rfl h
  · have h := h.2 c1
    refine x_aload_n (pc := 28) dX7_save_28 0 rfl rfl ?_
    refine x_get (pc := 29) 327 11 dX7_save_29 (mK hG (by decide)) (mc_327 hG _) rfl inX7 (by decide) tb_722 rfl rfl ?_
    refine x_sipush (pc := 32) (v := 156) dX7_save_32 (by decide) ?_
    refine x_iload_n (pc := 35) dX7_save_35 1 rfl rfl ?_
    refine x_imul (pc := 36) dX7_save_36 ?_
    refine x_iload_n (pc := 37) dX7_save_37 2 rfl rfl ?_
    refine x_iadd (pc := 38) dX7_save_38 ?_
    refine x_aload_n (pc := 39) dX7_save_39 0 rfl rfl ?_
    refine x_get (pc := 40) 327 5 dX7_save_40 (mK hG (by decide)) (mc_327 hG _) rfl inX7 (by decide) tb_716 rfl rfl ?_
    refine x_iload_n (pc := 43) dX7_save_43 2 rfl rfl ?_
    have n7 := h.1
    refine x_iald (pc := 44) 329 dX7_save_44 (mK hG (by decide)) (mc_329 hG _) n7 ?_
    have h := h.2
    have n8 := h.1
    have h := h.2
    refine x_iast (pc := 45) 333 dX7_save_45 (mK hG (by decide)) (mc_333 hG) n8 ?_
    refine x_iinc (pc := 46) (v := (a2 + 1)) dX7_save_46 (k := 2) rfl rfl (by decide) rfl ?_
    refine x_goto (pc := 49) (tgt := 21) dX7_save_49 (by decide) ?_
    exact x_sub [1, 2, 0] rfl h
set_option maxRecDepth 100000 in
set_option maxHeartbeats 4000000 in
theorem t_X7_restore_0 {l : Launch} {G : Gx} {P : Int32 → Mem → Prop} (hG : Mn G) (a1 : Int32) (mem : Mem)
    (h : ∃ Q1 : Int32 → Mem → Prop, CtI l M_X7_in G [.long ((a1 : Int32).toInt64), .long 0, .long 1] mem Q1 ∧ ∀ (r3 : Int32) (m4 : Mem), Q1 r3 m4 → ((¬ r3 = 0 → (vp_in a1 2 ∧ ((¬ (m4 334 a1.toNatClampNeg) = 0 → (XI l M_X7_restore G P m4 26 [(0, .ref (gA G 327)), (1, .int a1), (2, .int 0)] [])) ∧ ((m4 334 a1.toNatClampNeg) = 0 → (P (-3) m4))))) ∧ (r3 = 0 → (P (-1) m4)))) :
    XI l M_X7_restore G P mem 0 [(0, .ref (gA G 327)), (1, .int a1)] [] := by
  refine x_iload_n (pc := 0) dX7_restore_0 1 rfl rfl ?_
  refine x_i2l (pc := 1) dX7_restore_1 ?_
  refine x_lconst (pc := 2) (v := 0) dX7_restore_2 rfl ?_
  refine x_lconst (pc := 3) (v := 1) dX7_restore_3 rfl ?_
  obtain ⟨Q1, hc2, h⟩ := h
  refine x_callSI (pc := 4) hc2 ok_X7_in dX7_restore_4 tb_789 ⟨⟨rfl, rfl⟩, ⟨by decide, by decide⟩, by decide, by decide⟩ rfl rfl (Nat.le_of_ble_eq_true rfl) (fun r3 m4 q5 => ?_)
  have h := h r3 m4 q5
  refine x_if_ne (pc := 7) (tgt := 12) dX7_restore_7 (by decide) (fun c6 => ?_) (fun c6 => ?_)
  · have h := h.1 c6
    refine x_aload_n (pc := 12) dX7_restore_12 0 rfl rfl ?_
    refine x_get (pc := 13) 327 12 dX7_restore_13 (mK hG (by decide)) (mc_327 hG _) rfl inX7 (by decide) tb_723 rfl rfl ?_
    refine x_iload_n (pc := 16) dX7_restore_16 1 rfl rfl ?_
    have n7 := h.1
    refine x_zald (pc := 17) 334 dX7_restore_17 (mK hG (by decide)) (mc_334 hG _) n7 ?_
    have h := h.2
    refine x_if_ne (pc := 18) (tgt := 24) dX7_restore_18 (by decide) (fun c8 => ?_) (fun c8 => ?_)
    · have h := h.1 c8
      refine x_iconst (pc := 24) (v := 0) dX7_restore_24 (by decide) ?_
      refine x_istore_n (pc := 25) dX7_restore_25 rfl (by decide) rfl ?_
      exact x_sub [1, 2, 0] rfl h
    · have h := h.2 c8
      refine x_bipush (pc := 21) (v := (-3)) dX7_restore_21 (by decide) ?_
      exact x_endI (pc := 23) dX7_restore_23 rfl h
  · have h := h.2 c6
    refine x_iconst (pc := 10) (v := (-1)) dX7_restore_10 (by decide) ?_
    exact x_endI (pc := 11) dX7_restore_11 rfl h
set_option maxRecDepth 100000 in
set_option maxHeartbeats 4000000 in
theorem t_X7_restore_26 {l : Launch} {G : Gx} {P : Int32 → Mem → Prop} (hG : Mn G) (a1 : Int32) (a2 : Int32) (mem : Mem)
    (h : (156 ≤ a2 → (∃ Q2 : Int32 → Mem → Prop, CtI l M_X7_edgesOf G [.ref (gA G 329)] (wr mem 327 9 0) Q2 ∧ ∀ (r4 : Int32) (m5 : Mem), Q2 r4 m5 → (P r4 m5))) ∧ (¬ 156 ≤ a2 → (vp_in ((156 * a1) + a2) 312 ∧ (vp_in a2 156 ∧ (XI l M_X7_restore G P (wr mem 329 a2.toNatClampNeg (mem 333 ((156 * a1) + a2).toNatClampNeg)) 26 [(0, .ref (gA G 327)), (1, .int a1), (2, .int (a2 + 1))] []))))) :
    XI l M_X7_restore G P mem 26 [(0, .ref (gA G 327)), (1, .int a1), (2, .int a2)] [] := by
  refine x_iload_n (pc := 26) dX7_restore_26 2 rfl rfl ?_
  refine x_sipush (pc := 27) (v := 156) dX7_restore_27 (by decide) ?_
  refine x_icmp_ge (pc := 30) (tgt := 57) dX7_restore_30 (by decide) (fun c1 => ?_) (fun c1 => ?_)
  · have h := h.1 c1
    refine x_aload_n (pc := 57) dX7_restore_57 0 rfl rfl ?_
    refine x_iconst (pc := 58) (v := 0) dX7_restore_58 (by decide) ?_
    refine x_put (pc := 59) 327 9 dX7_restore_59 (mK hG (by decide)) (mc_327 hG) rfl inX7 tyX7 tyX7_ok nmX7 (by decide) tb_720 rfl rfl (by decide +kernel) (fun _ => Nat.le_of_ble_eq_true rfl) (fun _ _ => rfl) ?_
    refine x_aload_n (pc := 62) dX7_restore_62 0 rfl rfl ?_
    refine x_get (pc := 63) 327 5 dX7_restore_63 (mK hG (by decide)) (mc_327 hG _) rfl inX7 (by decide) tb_716 rfl rfl ?_
    obtain ⟨Q2, hc3, h⟩ := h
    refine x_callSI (pc := 66) hc3 ok_X7_edgesOf dX7_restore_66 tb_841 ⟨⟨rfl, rfl⟩, ⟨by decide, by decide⟩, by decide, by decide⟩ rfl rfl (Nat.le_of_ble_eq_true rfl) (fun r4 m5 q6 => ?_)
    have h := h r4 m5 q6
    exact x_endI (pc := 69) dX7_restore_69 rfl h
  · have h := h.2 c1
    refine x_aload_n (pc := 33) dX7_restore_33 0 rfl rfl ?_
    refine x_get (pc := 34) 327 5 dX7_restore_34 (mK hG (by decide)) (mc_327 hG _) rfl inX7 (by decide) tb_716 rfl rfl ?_
    refine x_iload_n (pc := 37) dX7_restore_37 2 rfl rfl ?_
    refine x_aload_n (pc := 38) dX7_restore_38 0 rfl rfl ?_
    refine x_get (pc := 39) 327 11 dX7_restore_39 (mK hG (by decide)) (mc_327 hG _) rfl inX7 (by decide) tb_722 rfl rfl ?_
    refine x_sipush (pc := 42) (v := 156) dX7_restore_42 (by decide) ?_
    refine x_iload_n (pc := 45) dX7_restore_45 1 rfl rfl ?_
    refine x_imul (pc := 46) dX7_restore_46 ?_
    refine x_iload_n (pc := 47) dX7_restore_47 2 rfl rfl ?_
    refine x_iadd (pc := 48) dX7_restore_48 ?_
    have n7 := h.1
    refine x_iald (pc := 49) 333 dX7_restore_49 (mK hG (by decide)) (mc_333 hG _) n7 ?_
    have h := h.2
    have n8 := h.1
    have h := h.2
    refine x_iast (pc := 50) 329 dX7_restore_50 (mK hG (by decide)) (mc_329 hG) n8 ?_
    refine x_iinc (pc := 51) (v := (a2 + 1)) dX7_restore_51 (k := 2) rfl rfl (by decide) rfl ?_
    refine x_goto (pc := 54) (tgt := 26) dX7_restore_54 (by decide) ?_
    exact x_sub [1, 2, 0] rfl h
