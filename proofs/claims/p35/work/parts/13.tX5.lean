set_option maxRecDepth 100000 in
set_option maxHeartbeats 4000000 in
theorem t_X5_measure_0 {l : Launch} {G : Gx} {P : Mem → Prop} {s : Nat} (hs : Sv G s)  (mem : Mem)
    (h : ∃ Q1 : Int32 → Mem → Prop, CtI l M_X1_vertices G [.ref (gA G (s - 15))] mem Q1 ∧ ∀ (r3 : Int32) (m4 : Mem), Q1 r3 m4 → (XV l M_X5_measure G P (wr m4 s 1 r3) 13 [(0, .ref (gA G s)), (1, .int 0)] [])) :
    XV l M_X5_measure G P mem 0 [(0, .ref (gA G s))] [] := by
  refine x_aload_n (pc := 0) dX5_measure_0 0 rfl rfl ?_
  refine x_aload_n (pc := 1) dX5_measure_1 0 rfl rfl ?_
  refine x_get (pc := 2) s 0 dX5_measure_2 (Sv_K0 hs) (Sv_c0 hs _) rfl inX5 (by decide) tb_92 rfl rfl ?_
  obtain ⟨Q1, hc2, h⟩ := h
  refine x_callVI (pc := 5) (s - 15) hc2 ok_X1_vertices dX5_measure_5 tb_285 ⟨⟨rfl, rfl⟩, ⟨by decide, by decide⟩, by decide, by decide⟩ (Fo_K0 (Sv_Fo hs)) (Fo_c0 (Sv_Fo hs) _) rfl (As := []) rfl rfl (Nat.le_of_ble_eq_true rfl) (fun r3 m4 q5 => ?_)
  have h := h r3 m4 q5
  refine x_put (pc := 8) s 1 dX5_measure_8 (Sv_K0 hs) (Sv_c0 hs) rfl inX5 tyX5 tyX5_ok nmX5 (by decide) tb_93 rfl rfl (by decide +kernel) (fun _ => Nat.le_of_ble_eq_true rfl) (fun _ _ => rfl) ?_
  refine x_iconst (pc := 11) (v := 0) dX5_measure_11 (by decide) ?_
  refine x_istore_n (pc := 12) dX5_measure_12 rfl (by decide) rfl ?_
  exact x_sub [1, 0] rfl h
set_option maxRecDepth 100000 in
set_option maxHeartbeats 4000000 in
theorem t_X5_measure_13 {l : Launch} {G : Gx} {P : Mem → Prop} {s : Nat} (hs : Sv G s) (a1 : Int32) (mem : Mem)
    (h : ((mem s 1) ≤ a1 → (XV l M_X5_measure G P mem 82 [(0, .ref (gA G s)), (1, .int 0)] [])) ∧ (¬ (mem s 1) ≤ a1 → (XV l M_X5_measure G P mem 23 [(0, .ref (gA G s)), (1, .int a1), (2, .int 0)] []))) :
    XV l M_X5_measure G P mem 13 [(0, .ref (gA G s)), (1, .int a1)] [] := by
  refine x_iload_n (pc := 13) dX5_measure_13 1 rfl rfl ?_
  refine x_aload_n (pc := 14) dX5_measure_14 0 rfl rfl ?_
  refine x_get (pc := 15) s 1 dX5_measure_15 (Sv_K0 hs) (Sv_c0 hs _) rfl inX5 (by decide) tb_93 rfl rfl ?_
  refine x_icmp_ge (pc := 18) (tgt := 80) dX5_measure_18 (by decide) (fun c1 => ?_) (fun c1 => ?_)
  · have h := h.1 c1
    refine x_iconst (pc := 80) (v := 0) dX5_measure_80 (by decide) ?_
    refine x_istore_n (pc := 81) dX5_measure_81 rfl (by decide) rfl ?_
    exact x_sub [1, 0] rfl h
  · have h := h.2 c1
    refine x_iconst (pc := 21) (v := 0) dX5_measure_21 (by decide) ?_
    refine x_istore_n (pc := 22) dX5_measure_22 rfl (by decide) rfl ?_
    exact x_sub [1, 2, 0] rfl h
set_option maxRecDepth 100000 in
set_option maxHeartbeats 4000000 in
theorem t_X5_measure_23 {l : Launch} {G : Gx} {P : Mem → Prop} {s : Nat} (hs : Sv G s) (a1 : Int32) (a2 : Int32) (mem : Mem)
    (h : ((mem s 1) ≤ a2 → (vp_in a1 12 ∧ (vp_in a1 12 ∧ (XV l M_X5_measure G P (wr mem (s + 2 + a1.toNatClampNeg) a1.toNatClampNeg 0) 13 [(0, .ref (gA G s)), (1, .int (a1 + 1))] [])))) ∧ (¬ (mem s 1) ≤ a2 → (∃ Q4 : Int32 → Mem → Prop, CtI l M_X1_edgeBetween G [.ref (gA G (s - 15)), .int a1, .int a2] mem Q4 ∧ ∀ (r6 : Int32) (m7 : Mem), Q4 r6 m7 → (vp_in a1 12 ∧ ((¬ r6 = 0 → (vp_in a2 12 ∧ (XV l M_X5_measure G P (wr m7 (s + 2 + a1.toNatClampNeg) a2.toNatClampNeg r6) 23 [(0, .ref (gA G s)), (1, .int a1), (2, .int (a2 + 1))] []))) ∧ (r6 = 0 → (vp_in a2 12 ∧ (XV l M_X5_measure G P (wr m7 (s + 2 + a1.toNatClampNeg) a2.toNatClampNeg 1000000) 23 [(0, .ref (gA G s)), (1, .int a1), (2, .int (a2 + 1))] [])))))))) :
    XV l M_X5_measure G P mem 23 [(0, .ref (gA G s)), (1, .int a1), (2, .int a2)] [] := by
  refine x_iload_n (pc := 23) dX5_measure_23 2 rfl rfl ?_
  refine x_aload_n (pc := 24) dX5_measure_24 0 rfl rfl ?_
  refine x_get (pc := 25) s 1 dX5_measure_25 (Sv_K0 hs) (Sv_c0 hs _) rfl inX5 (by decide) tb_93 rfl rfl ?_
  refine x_icmp_ge (pc := 28) (tgt := 65) dX5_measure_28 (by decide) (fun c1 => ?_) (fun c1 => ?_)
  · have h := h.1 c1
    refine x_aload_n (pc := 65) dX5_measure_65 0 rfl rfl ?_
    refine x_get (pc := 66) s 2 dX5_measure_66 (Sv_K0 hs) (Sv_c0 hs _) rfl inX5 (by decide) tb_94 rfl rfl ?_
    refine x_iload_n (pc := 69) dX5_measure_69 1 rfl rfl ?_
    have n2 := h.1
    refine x_aaldR (pc := 70) (s + 1) dX5_measure_70 (Sv_K (i := 1) hs (by decide)) (Sv_c1 hs _) n2 (if_pos (vp_lt n2)) ?_
    have h := h.2
    refine x_iload_n (pc := 71) dX5_measure_71 1 rfl rfl ?_
    refine x_iconst (pc := 72) (v := 0) dX5_measure_72 (by decide) ?_
    have n3 := h.1
    have h := h.2
    refine x_iast (pc := 73) (s + 2 + a1.toNatClampNeg) dX5_measure_73 (Sv_K3 hs (vp_lt n2)) (Sv_c3 hs (vp_lt n2)) n3 ?_
    refine x_iinc (pc := 74) (v := (a1 + 1)) dX5_measure_74 (k := 1) rfl rfl (by decide) rfl ?_
    refine x_goto (pc := 77) (tgt := 13) dX5_measure_77 (by decide) ?_
    exact x_sub [1, 0] rfl h
  · have h := h.2 c1
    refine x_aload_n (pc := 31) dX5_measure_31 0 rfl rfl ?_
    refine x_get (pc := 32) s 0 dX5_measure_32 (Sv_K0 hs) (Sv_c0 hs _) rfl inX5 (by decide) tb_92 rfl rfl ?_
    refine x_iload_n (pc := 35) dX5_measure_35 1 rfl rfl ?_
    refine x_iload_n (pc := 36) dX5_measure_36 2 rfl rfl ?_
    obtain ⟨Q4, hc5, h⟩ := h
    refine x_callVI (pc := 37) (s - 15) hc5 ok_X1_edgeBetween dX5_measure_37 tb_289 ⟨⟨rfl, rfl⟩, ⟨by decide, by decide⟩, by decide, by decide⟩ (Fo_K0 (Sv_Fo hs)) (Fo_c0 (Sv_Fo hs) _) rfl (As := [.int a1, .int a2]) rfl rfl (Nat.le_of_ble_eq_true rfl) (fun r6 m7 q8 => ?_)
    have h := h r6 m7 q8
    refine x_istore_n (pc := 40) dX5_measure_40 rfl (by decide) rfl ?_
    refine x_aload_n (pc := 41) dX5_measure_41 1 rfl rfl ?_
    refine x_get (pc := 42) s 2 dX5_measure_42 (Sv_K0 hs) (Sv_c0 hs _) rfl inX5 (by decide) tb_94 rfl rfl ?_
    refine x_iload_n (pc := 45) dX5_measure_45 2 rfl rfl ?_
    have n9 := h.1
    refine x_aaldR (pc := 46) (s + 1) dX5_measure_46 (Sv_K (i := 1) hs (by decide)) (Sv_c1 hs _) n9 (if_pos (vp_lt n9)) ?_
    have h := h.2
    refine x_iload_n (pc := 47) dX5_measure_47 3 rfl rfl ?_
    refine x_iload_n (pc := 48) dX5_measure_48 0 rfl rfl ?_
    refine x_if_ne (pc := 49) (tgt := 57) dX5_measure_49 (by decide) (fun c10 => ?_) (fun c10 => ?_)
    · have h := h.1 c10
      refine x_iload_n (pc := 57) dX5_measure_57 0 rfl rfl ?_
      have n11 := h.1
      have h := h.2
      refine x_iast (pc := 58) (s + 2 + a1.toNatClampNeg) dX5_measure_58 (Sv_K3 hs (vp_lt n9)) (Sv_c3 hs (vp_lt n9)) n11 ?_
      refine x_iinc (pc := 59) (v := (a2 + 1)) dX5_measure_59 (k := 3) rfl rfl (by decide) rfl ?_
      refine x_goto (pc := 62) (tgt := 23) dX5_measure_62 (by decide) ?_
      exact x_sub [2, 3, 0] rfl h
    · have h := h.2 c10
      refine x_ldc (pc := 52) (v := 1000000) dX5_measure_52 tb_290 ?_
      refine x_goto (pc := 54) (tgt := 58) dX5_measure_54 (by decide) ?_
      have n12 := h.1
      have h := h.2
      refine x_iast (pc := 58) (s + 2 + a1.toNatClampNeg) dX5_measure_58 (Sv_K3 hs (vp_lt n9)) (Sv_c3 hs (vp_lt n9)) n12 ?_
      refine x_iinc (pc := 59) (v := (a2 + 1)) dX5_measure_59 (k := 3) rfl rfl (by decide) rfl ?_
      refine x_goto (pc := 62) (tgt := 23) dX5_measure_62 (by decide) ?_
      exact x_sub [2, 3, 0] rfl h
set_option maxRecDepth 100000 in
set_option maxHeartbeats 4000000 in
theorem t_X5_measure_82 {l : Launch} {G : Gx} {P : Mem → Prop} {s : Nat} (hs : Sv G s) (a1 : Int32) (mem : Mem)
    (h : ((mem s 1) ≤ a1 → (P mem)) ∧ (¬ (mem s 1) ≤ a1 → (XV l M_X5_measure G P mem 92 [(0, .ref (gA G s)), (1, .int a1), (2, .int 0)] []))) :
    XV l M_X5_measure G P mem 82 [(0, .ref (gA G s)), (1, .int a1)] [] := by
  refine x_iload_n (pc := 82) dX5_measure_82 1 rfl rfl ?_
  refine x_aload_n (pc := 83) dX5_measure_83 0 rfl rfl ?_
  refine x_get (pc := 84) s 1 dX5_measure_84 (Sv_K0 hs) (Sv_c0 hs _) rfl inX5 (by decide) tb_93 rfl rfl ?_
  refine x_icmp_ge (pc := 87) (tgt := 118) dX5_measure_87 (by decide) (fun c1 => ?_) (fun c1 => ?_)
  · have h := h.1 c1
    exact x_endV (pc := 118) dX5_measure_118 rfl h
  · have h := h.2 c1
    refine x_iconst (pc := 90) (v := 0) dX5_measure_90 (by decide) ?_
    refine x_istore_n (pc := 91) dX5_measure_91 rfl (by decide) rfl ?_
    exact x_sub [1, 2, 0] rfl h
set_option maxRecDepth 100000 in
set_option maxHeartbeats 4000000 in
theorem t_X5_measure_92 {l : Launch} {G : Gx} {P : Mem → Prop} {s : Nat} (hs : Sv G s) (a1 : Int32) (a2 : Int32) (mem : Mem)
    (h : ((mem s 1) ≤ a2 → (XV l M_X5_measure G P mem 82 [(0, .ref (gA G s)), (1, .int (a1 + 1))] [])) ∧ (¬ (mem s 1) ≤ a2 → (∃ Q2 : Mem → Prop, CtV l M_X5_extendOver G [.ref (gA G s), .int a1, .int a2] mem Q2 ∧ ∀ m5 : Mem, Q2 m5 → (XV l M_X5_measure G P m5 92 [(0, .ref (gA G s)), (1, .int a1), (2, .int (a2 + 1))] [])))) :
    XV l M_X5_measure G P mem 92 [(0, .ref (gA G s)), (1, .int a1), (2, .int a2)] [] := by
  refine x_iload_n (pc := 92) dX5_measure_92 2 rfl rfl ?_
  refine x_aload_n (pc := 93) dX5_measure_93 0 rfl rfl ?_
  refine x_get (pc := 94) s 1 dX5_measure_94 (Sv_K0 hs) (Sv_c0 hs _) rfl inX5 (by decide) tb_93 rfl rfl ?_
  refine x_icmp_ge (pc := 97) (tgt := 112) dX5_measure_97 (by decide) (fun c1 => ?_) (fun c1 => ?_)
  · have h := h.1 c1
    refine x_iinc (pc := 112) (v := (a1 + 1)) dX5_measure_112 (k := 1) rfl rfl (by decide) rfl ?_
    refine x_goto (pc := 115) (tgt := 82) dX5_measure_115 (by decide) ?_
    exact x_sub [1, 0] rfl h
  · have h := h.2 c1
    refine x_aload_n (pc := 100) dX5_measure_100 0 rfl rfl ?_
    refine x_iload_n (pc := 101) dX5_measure_101 1 rfl rfl ?_
    refine x_iload_n (pc := 102) dX5_measure_102 2 rfl rfl ?_
    obtain ⟨Q2, hc3, h⟩ := h
    refine x_callVV (pc := 103) s hc3 ok_X5_extendOver dX5_measure_103 tb_291 ⟨⟨rfl, rfl⟩, ⟨by decide, by decide⟩, by decide, by decide⟩ (Sv_K0 hs) (Sv_c0 hs _) rfl (As := [.int a1, .int a2]) rfl rfl (Nat.le_of_ble_eq_true rfl) (fun m5 q6 => ?_)
    have h := h m5 q6
    refine x_iinc (pc := 106) (v := (a2 + 1)) dX5_measure_106 (k := 2) rfl rfl (by decide) rfl ?_
    refine x_goto (pc := 109) (tgt := 92) dX5_measure_109 (by decide) ?_
    exact x_sub [1, 2, 0] rfl h
set_option maxRecDepth 100000 in
set_option maxHeartbeats 4000000 in
theorem t_X5_extendOver_0 {l : Launch} {G : Gx} {P : Mem → Prop} {s : Nat} (hs : Sv G s) (a1 : Int32) (a2 : Int32) (mem : Mem)
    (h : vp_in a2 12 ∧ (vp_in a1 12 ∧ (((mem (s + 2 + a2.toNatClampNeg) a1.toNatClampNeg) < 1000000 → (XV l M_X5_extendOver G P mem 19 [(0, .ref (gA G s)), (1, .int a1), (2, .int a2), (3, .int (mem (s + 2 + a2.toNatClampNeg) a1.toNatClampNeg)), (4, .int 0)] [])) ∧ (¬ (mem (s + 2 + a2.toNatClampNeg) a1.toNatClampNeg) < 1000000 → (P mem))))) :
    XV l M_X5_extendOver G P mem 0 [(0, .ref (gA G s)), (1, .int a1), (2, .int a2)] [] := by
  refine x_aload_n (pc := 0) dX5_extendOver_0 0 rfl rfl ?_
  refine x_get (pc := 1) s 2 dX5_extendOver_1 (Sv_K0 hs) (Sv_c0 hs _) rfl inX5 (by decide) tb_94 rfl rfl ?_
  refine x_iload_n (pc := 4) dX5_extendOver_4 2 rfl rfl ?_
  have n1 := h.1
  refine x_aaldR (pc := 5) (s + 1) dX5_extendOver_5 (Sv_K (i := 1) hs (by decide)) (Sv_c1 hs _) n1 (if_pos (vp_lt n1)) ?_
  have h := h.2
  refine x_iload_n (pc := 6) dX5_extendOver_6 1 rfl rfl ?_
  have n2 := h.1
  refine x_iald (pc := 7) (s + 2 + a2.toNatClampNeg) dX5_extendOver_7 (Sv_K3 hs (vp_lt n1)) (Sv_c3 hs (vp_lt n1) _) n2 ?_
  have h := h.2
  refine x_istore_n (pc := 8) dX5_extendOver_8 rfl (by decide) rfl ?_
  refine x_iload_n (pc := 9) dX5_extendOver_9 0 rfl rfl ?_
  refine x_ldc (pc := 10) (v := 1000000) dX5_extendOver_10 tb_290 ?_
  refine x_icmp_lt (pc := 12) (tgt := 16) dX5_extendOver_12 (by decide) (fun c3 => ?_) (fun c3 => ?_)
  · have h := h.1 c3
    refine x_iconst (pc := 16) (v := 0) dX5_extendOver_16 (by decide) ?_
    refine x_istore (pc := 17) dX5_extendOver_17 (by decide) rfl ?_
    exact x_sub [2, 3, 4, 1, 0] rfl h
  · have h := h.2 c3
    exact x_endV (pc := 15) dX5_extendOver_15 rfl h
set_option maxRecDepth 100000 in
set_option maxHeartbeats 4000000 in
theorem t_X5_extendOver_19 {l : Launch} {G : Gx} {P : Mem → Prop} {s : Nat} (hs : Sv G s) (a1 : Int32) (a2 : Int32) (a3 : Int32) (a4 : Int32) (mem : Mem)
    (h : ((mem s 1) ≤ a4 → (P mem)) ∧ (¬ (mem s 1) ≤ a4 → (vp_in a2 12 ∧ (vp_in a2 12 ∧ (vp_in a4 12 ∧ (vp_in a1 12 ∧ (vp_in a4 12 ∧ (vp_in a4 12 ∧ (XV l M_X5_extendOver G P (wr mem (s + 2 + a2.toNatClampNeg) a4.toNatClampNeg (if (a3 + (mem (s + 2 + a1.toNatClampNeg) a4.toNatClampNeg)) < (mem (s + 2 + a2.toNatClampNeg) a4.toNatClampNeg) then (a3 + (mem (s + 2 + a1.toNatClampNeg) a4.toNatClampNeg)) else (mem (s + 2 + a2.toNatClampNeg) a4.toNatClampNeg))) 19 [(0, .ref (gA G s)), (1, .int a1), (2, .int a2), (3, .int a3), (4, .int (a4 + 1))] []))))))))) :
    XV l M_X5_extendOver G P mem 19 [(0, .ref (gA G s)), (1, .int a1), (2, .int a2), (3, .int a3), (4, .int a4)] [] := by
  refine x_iload (pc := 19) dX5_extendOver_19 4 rfl ?_
  refine x_aload_n (pc := 21) dX5_extendOver_21 0 rfl rfl ?_
  refine x_get (pc := 22) s 1 dX5_extendOver_22 (Sv_K0 hs) (Sv_c0 hs _) rfl inX5 (by decide) tb_93 rfl rfl ?_
  refine x_icmp_ge (pc := 25) (tgt := 66) dX5_extendOver_25 (by decide) (fun c1 => ?_) (fun c1 => ?_)
  · have h := h.1 c1
    exact x_endV (pc := 66) dX5_extendOver_66 rfl h
  · have h := h.2 c1
    refine x_aload_n (pc := 28) dX5_extendOver_28 0 rfl rfl ?_
    refine x_get (pc := 29) s 2 dX5_extendOver_29 (Sv_K0 hs) (Sv_c0 hs _) rfl inX5 (by decide) tb_94 rfl rfl ?_
    refine x_iload_n (pc := 32) dX5_extendOver_32 2 rfl rfl ?_
    have n2 := h.1
    refine x_aaldR (pc := 33) (s + 1) dX5_extendOver_33 (Sv_K (i := 1) hs (by decide)) (Sv_c1 hs _) n2 (if_pos (vp_lt n2)) ?_
    have h := h.2
    refine x_iload (pc := 34) dX5_extendOver_34 4 rfl ?_
    refine x_aload_n (pc := 36) dX5_extendOver_36 0 rfl rfl ?_
    refine x_get (pc := 37) s 2 dX5_extendOver_37 (Sv_K0 hs) (Sv_c0 hs _) rfl inX5 (by decide) tb_94 rfl rfl ?_
    refine x_iload_n (pc := 40) dX5_extendOver_40 2 rfl rfl ?_
    have n3 := h.1
    refine x_aaldR (pc := 41) (s + 1) dX5_extendOver_41 (Sv_K (i := 1) hs (by decide)) (Sv_c1 hs _) n3 (if_pos (vp_lt n3)) ?_
    have h := h.2
    refine x_iload (pc := 42) dX5_extendOver_42 4 rfl ?_
    have n4 := h.1
    refine x_iald (pc := 44) (s + 2 + a2.toNatClampNeg) dX5_extendOver_44 (Sv_K3 hs (vp_lt n3)) (Sv_c3 hs (vp_lt n3) _) n4 ?_
    have h := h.2
    refine x_iload_n (pc := 45) dX5_extendOver_45 3 rfl rfl ?_
    refine x_aload_n (pc := 46) dX5_extendOver_46 0 rfl rfl ?_
    refine x_get (pc := 47) s 2 dX5_extendOver_47 (Sv_K0 hs) (Sv_c0 hs _) rfl inX5 (by decide) tb_94 rfl rfl ?_
    refine x_iload_n (pc := 50) dX5_extendOver_50 1 rfl rfl ?_
    have n5 := h.1
    refine x_aaldR (pc := 51) (s + 1) dX5_extendOver_51 (Sv_K (i := 1) hs (by decide)) (Sv_c1 hs _) n5 (if_pos (vp_lt n5)) ?_
    have h := h.2
    refine x_iload (pc := 52) dX5_extendOver_52 4 rfl ?_
    have n6 := h.1
    refine x_iald (pc := 54) (s + 2 + a1.toNatClampNeg) dX5_extendOver_54 (Sv_K3 hs (vp_lt n5)) (Sv_c3 hs (vp_lt n5) _) n6 ?_
    have h := h.2
    refine x_iadd (pc := 55) dX5_extendOver_55 ?_
    refine x_mmin (pc := 56) dX5_extendOver_56 tb_295 tb_66 tb_33 tb_67 ⟨by decide, Nat.le_of_ble_eq_true rfl, by decide, by decide⟩ ?_
    have n7 := h.1
    have h := h.2
    refine x_iast (pc := 59) (s + 2 + a2.toNatClampNeg) dX5_extendOver_59 (Sv_K3 hs (vp_lt n2)) (Sv_c3 hs (vp_lt n2)) n7 ?_
    refine x_iinc (pc := 60) (v := (a4 + 1)) dX5_extendOver_60 (k := 4) rfl rfl (by decide) rfl ?_
    refine x_goto (pc := 63) (tgt := 19) dX5_extendOver_63 (by decide) ?_
    exact x_sub [1, 2, 3, 4, 0] rfl h
set_option maxRecDepth 100000 in
set_option maxHeartbeats 4000000 in
theorem t_X5_between_0 {l : Launch} {G : Gx} {P : Int32 → Mem → Prop} {s : Nat} (hs : Sv G s) (a1 : Int32) (a2 : Int32) (mem : Mem)
    (h : (a1 < 0 → (P 1000000 mem)) ∧ (¬ a1 < 0 → (((mem s 1) ≤ a1 → (P 1000000 mem)) ∧ (¬ (mem s 1) ≤ a1 → ((a2 < 0 → (P 1000000 mem)) ∧ (¬ a2 < 0 → ((a2 < (mem s 1) → (vp_in a1 12 ∧ (vp_in a2 12 ∧ (P (mem (s + 2 + a1.toNatClampNeg) a2.toNatClampNeg) mem)))) ∧ (¬ a2 < (mem s 1) → (P 1000000 mem))))))))) :
    XI l M_X5_between G P mem 0 [(0, .ref (gA G s)), (1, .int a1), (2, .int a2)] [] := by
  refine x_iload_n (pc := 0) dX5_between_0 1 rfl rfl ?_
  refine x_if_lt (pc := 1) (tgt := 24) dX5_between_1 (by decide) (fun c1 => ?_) (fun c1 => ?_)
  · have h := h.1 c1
    refine x_ldc (pc := 24) (v := 1000000) dX5_between_24 tb_290 ?_
    exact x_endI (pc := 26) dX5_between_26 rfl h
  · have h := h.2 c1
    refine x_iload_n (pc := 4) dX5_between_4 1 rfl rfl ?_
    refine x_aload_n (pc := 5) dX5_between_5 0 rfl rfl ?_
    refine x_get (pc := 6) s 1 dX5_between_6 (Sv_K0 hs) (Sv_c0 hs _) rfl inX5 (by decide) tb_93 rfl rfl ?_
    refine x_icmp_ge (pc := 9) (tgt := 24) dX5_between_9 (by decide) (fun c2 => ?_) (fun c2 => ?_)
    · have h := h.1 c2
      refine x_ldc (pc := 24) (v := 1000000) dX5_between_24 tb_290 ?_
      exact x_endI (pc := 26) dX5_between_26 rfl h
    · have h := h.2 c2
      refine x_iload_n (pc := 12) dX5_between_12 2 rfl rfl ?_
      refine x_if_lt (pc := 13) (tgt := 24) dX5_between_13 (by decide) (fun c3 => ?_) (fun c3 => ?_)
      · have h := h.1 c3
        refine x_ldc (pc := 24) (v := 1000000) dX5_between_24 tb_290 ?_
        exact x_endI (pc := 26) dX5_between_26 rfl h
      · have h := h.2 c3
        refine x_iload_n (pc := 16) dX5_between_16 2 rfl rfl ?_
        refine x_aload_n (pc := 17) dX5_between_17 0 rfl rfl ?_
        refine x_get (pc := 18) s 1 dX5_between_18 (Sv_K0 hs) (Sv_c0 hs _) rfl inX5 (by decide) tb_93 rfl rfl ?_
        refine x_icmp_lt (pc := 21) (tgt := 27) dX5_between_21 (by decide) (fun c4 => ?_) (fun c4 => ?_)
        · have h := h.1 c4
          refine x_aload_n (pc := 27) dX5_between_27 0 rfl rfl ?_
          refine x_get (pc := 28) s 2 dX5_between_28 (Sv_K0 hs) (Sv_c0 hs _) rfl inX5 (by decide) tb_94 rfl rfl ?_
          refine x_iload_n (pc := 31) dX5_between_31 1 rfl rfl ?_
          have n5 := h.1
          refine x_aaldR (pc := 32) (s + 1) dX5_between_32 (Sv_K (i := 1) hs (by decide)) (Sv_c1 hs _) n5 (if_pos (vp_lt n5)) ?_
          have h := h.2
          refine x_iload_n (pc := 33) dX5_between_33 2 rfl rfl ?_
          have n6 := h.1
          refine x_iald (pc := 34) (s + 2 + a1.toNatClampNeg) dX5_between_34 (Sv_K3 hs (vp_lt n5)) (Sv_c3 hs (vp_lt n5) _) n6 ?_
          have h := h.2
          exact x_endI (pc := 35) dX5_between_35 rfl h
        · have h := h.2 c4
          refine x_ldc (pc := 24) (v := 1000000) dX5_between_24 tb_290 ?_
          exact x_endI (pc := 26) dX5_between_26 rfl h
set_option maxRecDepth 100000 in
set_option maxHeartbeats 4000000 in
theorem t_X5_joined_0 {l : Launch} {G : Gx} {P : Int32 → Mem → Prop} {s : Nat} (hs : Sv G s) (a1 : Int32) (a2 : Int32) (mem : Mem)
    (h : ∃ Q1 : Int32 → Mem → Prop, CtI l M_X5_between G [.ref (gA G s), .int a1, .int a2] mem Q1 ∧ ∀ (r3 : Int32) (m4 : Mem), Q1 r3 m4 → ((1000000 ≤ r3 → (P 0 m4)) ∧ (¬ 1000000 ≤ r3 → (P 1 m4)))) :
    XI l M_X5_joined G P mem 0 [(0, .ref (gA G s)), (1, .int a1), (2, .int a2)] [] := by
  refine x_aload_n (pc := 0) dX5_joined_0 0 rfl rfl ?_
  refine x_iload_n (pc := 1) dX5_joined_1 1 rfl rfl ?_
  refine x_iload_n (pc := 2) dX5_joined_2 2 rfl rfl ?_
  obtain ⟨Q1, hc2, h⟩ := h
  refine x_callVI (pc := 3) s hc2 ok_X5_between dX5_joined_3 tb_304 ⟨⟨rfl, rfl⟩, ⟨by decide, by decide⟩, by decide, by decide⟩ (Sv_K0 hs) (Sv_c0 hs _) rfl (As := [.int a1, .int a2]) rfl rfl (Nat.le_of_ble_eq_true rfl) (fun r3 m4 q5 => ?_)
  have h := h r3 m4 q5
  refine x_ldc (pc := 6) (v := 1000000) dX5_joined_6 tb_290 ?_
  refine x_icmp_ge (pc := 8) (tgt := 15) dX5_joined_8 (by decide) (fun c6 => ?_) (fun c6 => ?_)
  · have h := h.1 c6
    refine x_iconst (pc := 15) (v := 0) dX5_joined_15 (by decide) ?_
    exact x_endZ (pc := 16) dX5_joined_16 rfl (Or.inl rfl) h
  · have h := h.2 c6
    refine x_iconst (pc := 11) (v := 1) dX5_joined_11 (by decide) ?_
    refine x_goto (pc := 12) (tgt := 16) dX5_joined_12 (by decide) ?_
    exact x_endZ (pc := 16) dX5_joined_16 rfl (Or.inr rfl) h
set_option maxRecDepth 100000 in
set_option maxHeartbeats 4000000 in
theorem t_X5_edgeOf_0 {l : Launch} {G : Gx} {P : Int32 → Mem → Prop} {s : Nat} (hs : Sv G s) (a1 : Int32) (a2 : Int32) (mem : Mem)
    (h : ∃ Q1 : Int32 → Mem → Prop, CtI l M_X1_edgeBetween G [.ref (gA G (s - 15)), .int a1, .int a2] mem Q1 ∧ ∀ (r3 : Int32) (m4 : Mem), Q1 r3 m4 → (P r3 m4)) :
    XI l M_X5_edgeOf G P mem 0 [(0, .ref (gA G s)), (1, .int a1), (2, .int a2)] [] := by
  refine x_aload_n (pc := 0) dX5_edgeOf_0 0 rfl rfl ?_
  refine x_get (pc := 1) s 0 dX5_edgeOf_1 (Sv_K0 hs) (Sv_c0 hs _) rfl inX5 (by decide) tb_92 rfl rfl ?_
  refine x_iload_n (pc := 4) dX5_edgeOf_4 1 rfl rfl ?_
  refine x_iload_n (pc := 5) dX5_edgeOf_5 2 rfl rfl ?_
  obtain ⟨Q1, hc2, h⟩ := h
  refine x_callVI (pc := 6) (s - 15) hc2 ok_X1_edgeBetween dX5_edgeOf_6 tb_289 ⟨⟨rfl, rfl⟩, ⟨by decide, by decide⟩, by decide, by decide⟩ (Fo_K0 (Sv_Fo hs)) (Fo_c0 (Sv_Fo hs) _) rfl (As := [.int a1, .int a2]) rfl rfl (Nat.le_of_ble_eq_true rfl) (fun r3 m4 q5 => ?_)
  have h := h r3 m4 q5
  exact x_endI (pc := 9) dX5_edgeOf_9 rfl h
set_option maxRecDepth 100000 in
set_option maxHeartbeats 4000000 in
theorem t_X5_smallestJoined_0 {l : Launch} {G : Gx} {P : Int32 → Mem → Prop} {s : Nat} (hs : Sv G s) (a1 : Int32) (mem : Mem)
    (h : XI l M_X5_smallestJoined G P mem 2 [(0, .ref (gA G s)), (1, .int a1), (2, .int 0)] []) :
    XI l M_X5_smallestJoined G P mem 0 [(0, .ref (gA G s)), (1, .int a1)] [] := by
  refine x_iconst (pc := 0) (v := 0) dX5_smallestJoined_0 (by decide) ?_
  refine x_istore_n (pc := 1) dX5_smallestJoined_1 rfl (by decide) rfl ?_
  exact x_sub [1, 2, 0] rfl h
set_option maxRecDepth 100000 in
set_option maxHeartbeats 4000000 in
theorem t_X5_smallestJoined_2 {l : Launch} {G : Gx} {P : Int32 → Mem → Prop} {s : Nat} (hs : Sv G s) (a1 : Int32) (a2 : Int32) (mem : Mem)
    (h : (a1 ≤ a2 → (P a1 mem)) ∧ (¬ a1 ≤ a2 → (∃ Q2 : Int32 → Mem → Prop, CtI l M_X5_joined G [.ref (gA G s), .int a2, .int a1] mem Q2 ∧ ∀ (r4 : Int32) (m5 : Mem), Q2 r4 m5 → ((r4 = 0 → (XI l M_X5_smallestJoined G P m5 2 [(0, .ref (gA G s)), (1, .int a1), (2, .int (a2 + 1))] [])) ∧ (¬ r4 = 0 → (P a2 m5)))))) :
    XI l M_X5_smallestJoined G P mem 2 [(0, .ref (gA G s)), (1, .int a1), (2, .int a2)] [] := by
  refine x_iload_n (pc := 2) dX5_smallestJoined_2 2 rfl rfl ?_
  refine x_iload_n (pc := 3) dX5_smallestJoined_3 1 rfl rfl ?_
  refine x_icmp_ge (pc := 4) (tgt := 24) dX5_smallestJoined_4 (by decide) (fun c1 => ?_) (fun c1 => ?_)
  · have h := h.1 c1
    refine x_iload_n (pc := 24) dX5_smallestJoined_24 1 rfl rfl ?_
    exact x_endI (pc := 25) dX5_smallestJoined_25 rfl h
  · have h := h.2 c1
    refine x_aload_n (pc := 7) dX5_smallestJoined_7 0 rfl rfl ?_
    refine x_iload_n (pc := 8) dX5_smallestJoined_8 2 rfl rfl ?_
    refine x_iload_n (pc := 9) dX5_smallestJoined_9 1 rfl rfl ?_
    obtain ⟨Q2, hc3, h⟩ := h
    refine x_callVI (pc := 10) s hc3 ok_X5_joined dX5_smallestJoined_10 tb_300 ⟨⟨rfl, rfl⟩, ⟨by decide, by decide⟩, by decide, by decide⟩ (Sv_K0 hs) (Sv_c0 hs _) rfl (As := [.int a2, .int a1]) rfl rfl (Nat.le_of_ble_eq_true rfl) (fun r4 m5 q6 => ?_)
    have h := h r4 m5 q6
    refine x_if_eq (pc := 13) (tgt := 18) dX5_smallestJoined_13 (by decide) (fun c7 => ?_) (fun c7 => ?_)
    · have h := h.1 c7
      refine x_iinc (pc := 18) (v := (a2 + 1)) dX5_smallestJoined_18 (k := 2) rfl rfl (by decide) rfl ?_
      refine x_goto (pc := 21) (tgt := 2) dX5_smallestJoined_21 (by decide) ?_
      exact x_sub [1, 2, 0] rfl h
    · have h := h.2 c7
      refine x_iload_n (pc := 16) dX5_smallestJoined_16 2 rfl rfl ?_
      exact x_endI (pc := 17) dX5_smallestJoined_17 rfl h
set_option maxRecDepth 100000 in
set_option maxHeartbeats 4000000 in
theorem t_X5_vertexOnPath_0 {l : Launch} {G : Gx} {P : Int32 → Mem → Prop} {s : Nat} (hs : Sv G s) (a1 : Int32) (a2 : Int32) (a3 : Int32) (mem : Mem)
    (h : ∃ Q1 : Int32 → Mem → Prop, CtI l M_X5_joined G [.ref (gA G s), .int a1, .int a2] mem Q1 ∧ ∀ (r3 : Int32) (m4 : Mem), Q1 r3 m4 → ((r3 = 0 → (P (-9) m4)) ∧ (¬ r3 = 0 → ((a3 < 12 → (XI l M_X5_vertexOnPath G P m4 24 [(0, .ref (gA G s)), (2, .int a2), (3, .int a3), (4, .int a1), (5, .int 0)] [])) ∧ (¬ a3 < 12 → (P (-9) m4)))))) :
    XI l M_X5_vertexOnPath G P mem 0 [(0, .ref (gA G s)), (1, .int a1), (2, .int a2), (3, .int a3)] [] := by
  refine x_aload_n (pc := 0) dX5_vertexOnPath_0 0 rfl rfl ?_
  refine x_iload_n (pc := 1) dX5_vertexOnPath_1 1 rfl rfl ?_
  refine x_iload_n (pc := 2) dX5_vertexOnPath_2 2 rfl rfl ?_
  obtain ⟨Q1, hc2, h⟩ := h
  refine x_callVI (pc := 3) s hc2 ok_X5_joined dX5_vertexOnPath_3 tb_300 ⟨⟨rfl, rfl⟩, ⟨by decide, by decide⟩, by decide, by decide⟩ (Sv_K0 hs) (Sv_c0 hs _) rfl (As := [.int a1, .int a2]) rfl rfl (Nat.le_of_ble_eq_true rfl) (fun r3 m4 q5 => ?_)
  have h := h r3 m4 q5
  refine x_if_eq (pc := 6) (tgt := 15) dX5_vertexOnPath_6 (by decide) (fun c6 => ?_) (fun c6 => ?_)
  · have h := h.1 c6
    refine x_bipush (pc := 15) (v := (-9)) dX5_vertexOnPath_15 (by decide) ?_
    exact x_endI (pc := 17) dX5_vertexOnPath_17 rfl h
  · have h := h.2 c6
    refine x_iload_n (pc := 9) dX5_vertexOnPath_9 3 rfl rfl ?_
    refine x_bipush (pc := 10) (v := 12) dX5_vertexOnPath_10 (by decide) ?_
    refine x_icmp_lt (pc := 12) (tgt := 18) dX5_vertexOnPath_12 (by decide) (fun c7 => ?_) (fun c7 => ?_)
    · have h := h.1 c7
      refine x_iload_n (pc := 18) dX5_vertexOnPath_18 1 rfl rfl ?_
      refine x_istore (pc := 19) dX5_vertexOnPath_19 (by decide) rfl ?_
      refine x_iconst (pc := 21) (v := 0) dX5_vertexOnPath_21 (by decide) ?_
      refine x_istore (pc := 22) dX5_vertexOnPath_22 (by decide) rfl ?_
      exact x_sub [2, 4, 5, 1, 0] rfl h
    · have h := h.2 c7
      refine x_bipush (pc := 15) (v := (-9)) dX5_vertexOnPath_15 (by decide) ?_
      exact x_endI (pc := 17) dX5_vertexOnPath_17 rfl h
set_option maxRecDepth 100000 in
set_option maxHeartbeats 4000000 in
theorem t_X5_vertexOnPath_24 {l : Launch} {G : Gx} {P : Int32 → Mem → Prop} {s : Nat} (hs : Sv G s) (a2 : Int32) (a3 : Int32) (a4 : Int32) (a5 : Int32) (mem : Mem)
    (h : (a3 ≤ a5 → (P a4 mem)) ∧ (¬ a3 ≤ a5 → ((¬ a4 = a2 → (∃ Q3 : Int32 → Mem → Prop, CtI l M_X5_stepToward G [.ref (gA G s), .int a4, .int a2] mem Q3 ∧ ∀ (r5 : Int32) (m6 : Mem), Q3 r5 m6 → (XI l M_X5_vertexOnPath G P m6 24 [(0, .ref (gA G s)), (2, .int a2), (3, .int a3), (4, .int r5), (5, .int (a5 + 1))] []))) ∧ (a4 = a2 → (P (-9) mem))))) :
    XI l M_X5_vertexOnPath G P mem 24 [(0, .ref (gA G s)), (2, .int a2), (3, .int a3), (4, .int a4), (5, .int a5)] [] := by
  refine x_iload (pc := 24) dX5_vertexOnPath_24 4 rfl ?_
  refine x_iload_n (pc := 26) dX5_vertexOnPath_26 2 rfl rfl ?_
  refine x_icmp_ge (pc := 27) (tgt := 54) dX5_vertexOnPath_27 (by decide) (fun c1 => ?_) (fun c1 => ?_)
  · have h := h.1 c1
    refine x_iload (pc := 54) dX5_vertexOnPath_54 3 rfl ?_
    exact x_endI (pc := 56) dX5_vertexOnPath_56 rfl h
  · have h := h.2 c1
    refine x_iload (pc := 30) dX5_vertexOnPath_30 3 rfl ?_
    refine x_iload_n (pc := 32) dX5_vertexOnPath_32 1 rfl rfl ?_
    refine x_icmp_ne (pc := 33) (tgt := 39) dX5_vertexOnPath_33 (by decide) (fun c2 => ?_) (fun c2 => ?_)
    · have h := h.1 c2
      refine x_aload_n (pc := 39) dX5_vertexOnPath_39 0 rfl rfl ?_
      refine x_iload (pc := 40) dX5_vertexOnPath_40 3 rfl ?_
      refine x_iload_n (pc := 42) dX5_vertexOnPath_42 1 rfl rfl ?_
      obtain ⟨Q3, hc4, h⟩ := h
      refine x_callVI (pc := 43) s hc4 ok_X5_stepToward dX5_vertexOnPath_43 tb_369 ⟨⟨rfl, rfl⟩, ⟨by decide, by decide⟩, by decide, by decide⟩ (Sv_K0 hs) (Sv_c0 hs _) rfl (As := [.int a4, .int a2]) rfl rfl (Nat.le_of_ble_eq_true rfl) (fun r5 m6 q7 => ?_)
      have h := h r5 m6 q7
      refine x_istore (pc := 46) dX5_vertexOnPath_46 (by decide) rfl ?_
      refine x_iinc (pc := 48) (v := (a5 + 1)) dX5_vertexOnPath_48 (k := 4) rfl rfl (by decide) rfl ?_
      refine x_goto (pc := 51) (tgt := 24) dX5_vertexOnPath_51 (by decide) ?_
      exact x_sub [2, 3, 4, 1, 0] rfl h
    · have h := h.2 c2
      refine x_bipush (pc := 36) (v := (-9)) dX5_vertexOnPath_36 (by decide) ?_
      exact x_endI (pc := 38) dX5_vertexOnPath_38 rfl h
set_option maxRecDepth 100000 in
set_option maxHeartbeats 4000000 in
theorem t_X5_stepToward_0 {l : Launch} {G : Gx} {P : Int32 → Mem → Prop} {s : Nat} (hs : Sv G s) (a1 : Int32) (a2 : Int32) (mem : Mem)
    (h : XI l M_X5_stepToward G P mem 2 [(0, .ref (gA G s)), (1, .int a1), (2, .int a2), (3, .int 0)] []) :
    XI l M_X5_stepToward G P mem 0 [(0, .ref (gA G s)), (1, .int a1), (2, .int a2)] [] := by
  refine x_iconst (pc := 0) (v := 0) dX5_stepToward_0 (by decide) ?_
  refine x_istore_n (pc := 1) dX5_stepToward_1 rfl (by decide) rfl ?_
  exact x_sub [1, 2, 3, 0] rfl h
set_option maxRecDepth 100000 in
set_option maxHeartbeats 4000000 in
theorem t_X5_stepToward_2 {l : Launch} {G : Gx} {P : Int32 → Mem → Prop} {s : Nat} (hs : Sv G s) (a1 : Int32) (a2 : Int32) (a3 : Int32) (mem : Mem)
    (h : ((mem s 1) ≤ a3 → (P a2 mem)) ∧ (¬ (mem s 1) ≤ a3 → (∃ Q2 : Int32 → Mem → Prop, CtI l M_X1_hasEdge G [.ref (gA G (s - 15)), .int a1, .int a3] mem Q2 ∧ ∀ (r4 : Int32) (m5 : Mem), Q2 r4 m5 → ((r4 = 0 → (XI l M_X5_stepToward G P m5 2 [(0, .ref (gA G s)), (1, .int a1), (2, .int a2), (3, .int (a3 + 1))] [])) ∧ (¬ r4 = 0 → (∃ Q8 : Int32 → Mem → Prop, CtI l M_X5_between G [.ref (gA G s), .int a3, .int a2] m5 Q8 ∧ ∀ (r10 : Int32) (m11 : Mem), Q8 r10 m11 → (∃ Q13 : Int32 → Mem → Prop, CtI l M_X5_between G [.ref (gA G s), .int a1, .int a2] m11 Q13 ∧ ∀ (r15 : Int32) (m16 : Mem), Q13 r15 m16 → ((r15 ≤ r10 → (XI l M_X5_stepToward G P m16 2 [(0, .ref (gA G s)), (1, .int a1), (2, .int a2), (3, .int (a3 + 1))] [])) ∧ (¬ r15 ≤ r10 → (P a3 m16)))))))))) :
    XI l M_X5_stepToward G P mem 2 [(0, .ref (gA G s)), (1, .int a1), (2, .int a2), (3, .int a3)] [] := by
  refine x_iload_n (pc := 2) dX5_stepToward_2 3 rfl rfl ?_
  refine x_aload_n (pc := 3) dX5_stepToward_3 0 rfl rfl ?_
  refine x_get (pc := 4) s 1 dX5_stepToward_4 (Sv_K0 hs) (Sv_c0 hs _) rfl inX5 (by decide) tb_93 rfl rfl ?_
  refine x_icmp_ge (pc := 7) (tgt := 45) dX5_stepToward_7 (by decide) (fun c1 => ?_) (fun c1 => ?_)
  · have h := h.1 c1
    refine x_iload_n (pc := 45) dX5_stepToward_45 2 rfl rfl ?_
    exact x_endI (pc := 46) dX5_stepToward_46 rfl h
  · have h := h.2 c1
    refine x_aload_n (pc := 10) dX5_stepToward_10 0 rfl rfl ?_
    refine x_get (pc := 11) s 0 dX5_stepToward_11 (Sv_K0 hs) (Sv_c0 hs _) rfl inX5 (by decide) tb_92 rfl rfl ?_
    refine x_iload_n (pc := 14) dX5_stepToward_14 1 rfl rfl ?_
    refine x_iload_n (pc := 15) dX5_stepToward_15 3 rfl rfl ?_
    obtain ⟨Q2, hc3, h⟩ := h
    refine x_callVI (pc := 16) (s - 15) hc3 ok_X1_hasEdge dX5_stepToward_16 tb_373 ⟨⟨rfl, rfl⟩, ⟨by decide, by decide⟩, by decide, by decide⟩ (Fo_K0 (Sv_Fo hs)) (Fo_c0 (Sv_Fo hs) _) rfl (As := [.int a1, .int a3]) rfl rfl (Nat.le_of_ble_eq_true rfl) (fun r4 m5 q6 => ?_)
    have h := h r4 m5 q6
    refine x_if_eq (pc := 19) (tgt := 39) dX5_stepToward_19 (by decide) (fun c7 => ?_) (fun c7 => ?_)
    · have h := h.1 c7
      refine x_iinc (pc := 39) (v := (a3 + 1)) dX5_stepToward_39 (k := 3) rfl rfl (by decide) rfl ?_
      refine x_goto (pc := 42) (tgt := 2) dX5_stepToward_42 (by decide) ?_
      exact x_sub [1, 2, 3, 0] rfl h
    · have h := h.2 c7
      refine x_aload_n (pc := 22) dX5_stepToward_22 0 rfl rfl ?_
      refine x_iload_n (pc := 23) dX5_stepToward_23 3 rfl rfl ?_
      refine x_iload_n (pc := 24) dX5_stepToward_24 2 rfl rfl ?_
      obtain ⟨Q8, hc9, h⟩ := h
      refine x_callVI (pc := 25) s hc9 ok_X5_between dX5_stepToward_25 tb_304 ⟨⟨rfl, rfl⟩, ⟨by decide, by decide⟩, by decide, by decide⟩ (Sv_K0 hs) (Sv_c0 hs _) rfl (As := [.int a3, .int a2]) rfl rfl (Nat.le_of_ble_eq_true rfl) (fun r10 m11 q12 => ?_)
      have h := h r10 m11 q12
      refine x_aload_n (pc := 28) dX5_stepToward_28 0 rfl rfl ?_
      refine x_iload_n (pc := 29) dX5_stepToward_29 1 rfl rfl ?_
      refine x_iload_n (pc := 30) dX5_stepToward_30 2 rfl rfl ?_
      obtain ⟨Q13, hc14, h⟩ := h
      refine x_callVI (pc := 31) s hc14 ok_X5_between dX5_stepToward_31 tb_304 ⟨⟨rfl, rfl⟩, ⟨by decide, by decide⟩, by decide, by decide⟩ (Sv_K0 hs) (Sv_c0 hs _) rfl (As := [.int a1, .int a2]) rfl rfl (Nat.le_of_ble_eq_true rfl) (fun r15 m16 q17 => ?_)
      have h := h r15 m16 q17
      refine x_icmp_ge (pc := 34) (tgt := 39) dX5_stepToward_34 (by decide) (fun c18 => ?_) (fun c18 => ?_)
      · have h := h.1 c18
        refine x_iinc (pc := 39) (v := (a3 + 1)) dX5_stepToward_39 (k := 3) rfl rfl (by decide) rfl ?_
        refine x_goto (pc := 42) (tgt := 2) dX5_stepToward_42 (by decide) ?_
        exact x_sub [1, 2, 3, 0] rfl h
      · have h := h.2 c18
        refine x_iload_n (pc := 37) dX5_stepToward_37 3 rfl rfl ?_
        exact x_endI (pc := 38) dX5_stepToward_38 rfl h
set_option maxRecDepth 100000 in
set_option maxHeartbeats 4000000 in
theorem t_X5_greatestFrom_0 {l : Launch} {G : Gx} {P : Int32 → Mem → Prop} {s : Nat} (hs : Sv G s) (a1 : Int32) (mem : Mem)
    (h : ∃ Q1 : Int32 → Mem → Prop, CtI l M_X5_firstFarthest G [.ref (gA G s), .int a1] mem Q1 ∧ ∀ (r3 : Int32) (m4 : Mem), Q1 r3 m4 → (∃ Q6 : Int32 → Mem → Prop, CtI l M_X5_between G [.ref (gA G s), .int a1, .int r3] m4 Q6 ∧ ∀ (r8 : Int32) (m9 : Mem), Q6 r8 m9 → (P r8 m9))) :
    XI l M_X5_greatestFrom G P mem 0 [(0, .ref (gA G s)), (1, .int a1)] [] := by
  refine x_aload_n (pc := 0) dX5_greatestFrom_0 0 rfl rfl ?_
  refine x_iload_n (pc := 1) dX5_greatestFrom_1 1 rfl rfl ?_
  refine x_aload_n (pc := 2) dX5_greatestFrom_2 0 rfl rfl ?_
  refine x_iload_n (pc := 3) dX5_greatestFrom_3 1 rfl rfl ?_
  obtain ⟨Q1, hc2, h⟩ := h
  refine x_callVI (pc := 4) s hc2 ok_X5_firstFarthest dX5_greatestFrom_4 tb_382 ⟨⟨rfl, rfl⟩, ⟨by decide, by decide⟩, by decide, by decide⟩ (Sv_K0 hs) (Sv_c0 hs _) rfl (As := [.int a1]) rfl rfl (Nat.le_of_ble_eq_true rfl) (fun r3 m4 q5 => ?_)
  have h := h r3 m4 q5
  obtain ⟨Q6, hc7, h⟩ := h
  refine x_callVI (pc := 7) s hc7 ok_X5_between dX5_greatestFrom_7 tb_304 ⟨⟨rfl, rfl⟩, ⟨by decide, by decide⟩, by decide, by decide⟩ (Sv_K0 hs) (Sv_c0 hs _) rfl (As := [.int a1, .int r3]) rfl rfl (Nat.le_of_ble_eq_true rfl) (fun r8 m9 q10 => ?_)
  have h := h r8 m9 q10
  exact x_endI (pc := 10) dX5_greatestFrom_10 rfl h
set_option maxRecDepth 100000 in
set_option maxHeartbeats 4000000 in
theorem t_X5_firstFarthest_0 {l : Launch} {G : Gx} {P : Int32 → Mem → Prop} {s : Nat} (hs : Sv G s) (a1 : Int32) (mem : Mem)
    (h : XI l M_X5_firstFarthest G P mem 7 [(0, .ref (gA G s)), (1, .int a1), (2, .int a1), (3, .int (-1)), (4, .int 0)] []) :
    XI l M_X5_firstFarthest G P mem 0 [(0, .ref (gA G s)), (1, .int a1)] [] := by
  refine x_iload_n (pc := 0) dX5_firstFarthest_0 1 rfl rfl ?_
  refine x_istore_n (pc := 1) dX5_firstFarthest_1 rfl (by decide) rfl ?_
  refine x_iconst (pc := 2) (v := (-1)) dX5_firstFarthest_2 (by decide) ?_
  refine x_istore_n (pc := 3) dX5_firstFarthest_3 rfl (by decide) rfl ?_
  refine x_iconst (pc := 4) (v := 0) dX5_firstFarthest_4 (by decide) ?_
  refine x_istore (pc := 5) dX5_firstFarthest_5 (by decide) rfl ?_
  exact x_sub [3, 4, 2, 1, 0] rfl h
set_option maxRecDepth 100000 in
set_option maxHeartbeats 4000000 in
theorem t_X5_firstFarthest_7 {l : Launch} {G : Gx} {P : Int32 → Mem → Prop} {s : Nat} (hs : Sv G s) (a1 : Int32) (a2 : Int32) (a3 : Int32) (a4 : Int32) (mem : Mem)
    (h : ((mem s 1) ≤ a4 → (P a2 mem)) ∧ (¬ (mem s 1) ≤ a4 → (∃ Q2 : Int32 → Mem → Prop, CtI l M_X5_between G [.ref (gA G s), .int a4, .int a1] mem Q2 ∧ ∀ (r4 : Int32) (m5 : Mem), Q2 r4 m5 → ((1000000 ≤ r4 → (XI l M_X5_firstFarthest G P m5 7 [(0, .ref (gA G s)), (1, .int a1), (2, .int a2), (3, .int a3), (4, .int (a4 + 1))] [])) ∧ (¬ 1000000 ≤ r4 → ((r4 ≤ a3 → (XI l M_X5_firstFarthest G P m5 7 [(0, .ref (gA G s)), (1, .int a1), (2, .int a2), (3, .int a3), (4, .int (a4 + 1))] [])) ∧ (¬ r4 ≤ a3 → (XI l M_X5_firstFarthest G P m5 7 [(0, .ref (gA G s)), (1, .int a1), (2, .int a4), (3, .int r4), (4, .int (a4 + 1))] [])))))))) :
    XI l M_X5_firstFarthest G P mem 7 [(0, .ref (gA G s)), (1, .int a1), (2, .int a2), (3, .int a3), (4, .int a4)] [] := by
  refine x_iload (pc := 7) dX5_firstFarthest_7 4 rfl ?_
  refine x_aload_n (pc := 9) dX5_firstFarthest_9 0 rfl rfl ?_
  refine x_get (pc := 10) s 1 dX5_firstFarthest_10 (Sv_K0 hs) (Sv_c0 hs _) rfl inX5 (by decide) tb_93 rfl rfl ?_
  refine x_icmp_ge (pc := 13) (tgt := 50) dX5_firstFarthest_13 (by decide) (fun c1 => ?_) (fun c1 => ?_)
  · have h := h.1 c1
    refine x_iload_n (pc := 50) dX5_firstFarthest_50 2 rfl rfl ?_
    exact x_endI (pc := 51) dX5_firstFarthest_51 rfl h
  · have h := h.2 c1
    refine x_aload_n (pc := 16) dX5_firstFarthest_16 0 rfl rfl ?_
    refine x_iload (pc := 17) dX5_firstFarthest_17 4 rfl ?_
    refine x_iload_n (pc := 19) dX5_firstFarthest_19 1 rfl rfl ?_
    obtain ⟨Q2, hc3, h⟩ := h
    refine x_callVI (pc := 20) s hc3 ok_X5_between dX5_firstFarthest_20 tb_304 ⟨⟨rfl, rfl⟩, ⟨by decide, by decide⟩, by decide, by decide⟩ (Sv_K0 hs) (Sv_c0 hs _) rfl (As := [.int a4, .int a1]) rfl rfl (Nat.le_of_ble_eq_true rfl) (fun r4 m5 q6 => ?_)
    have h := h r4 m5 q6
    refine x_istore (pc := 23) dX5_firstFarthest_23 (by decide) rfl ?_
    refine x_iload (pc := 25) dX5_firstFarthest_25 0 rfl ?_
    refine x_ldc (pc := 27) (v := 1000000) dX5_firstFarthest_27 tb_290 ?_
    refine x_icmp_ge (pc := 29) (tgt := 44) dX5_firstFarthest_29 (by decide) (fun c7 => ?_) (fun c7 => ?_)
    · have h := h.1 c7
      refine x_iinc (pc := 44) (v := (a4 + 1)) dX5_firstFarthest_44 (k := 5) rfl rfl (by decide) rfl ?_
      refine x_goto (pc := 47) (tgt := 7) dX5_firstFarthest_47 (by decide) ?_
      exact x_sub [2, 3, 4, 5, 0] rfl h
    · have h := h.2 c7
      refine x_iload (pc := 32) dX5_firstFarthest_32 0 rfl ?_
      refine x_iload_n (pc := 34) dX5_firstFarthest_34 4 rfl rfl ?_
      refine x_icmp_le (pc := 35) (tgt := 44) dX5_firstFarthest_35 (by decide) (fun c8 => ?_) (fun c8 => ?_)
      · have h := h.1 c8
        refine x_iinc (pc := 44) (v := (a4 + 1)) dX5_firstFarthest_44 (k := 5) rfl rfl (by decide) rfl ?_
        refine x_goto (pc := 47) (tgt := 7) dX5_firstFarthest_47 (by decide) ?_
        exact x_sub [2, 3, 4, 5, 0] rfl h
      · have h := h.2 c8
        refine x_iload (pc := 38) dX5_firstFarthest_38 5 rfl ?_
        refine x_istore_n (pc := 40) dX5_firstFarthest_40 rfl (by decide) rfl ?_
        refine x_iload (pc := 41) dX5_firstFarthest_41 1 rfl ?_
        refine x_istore_n (pc := 43) dX5_firstFarthest_43 rfl (by decide) rfl ?_
        refine x_iinc (pc := 44) (v := (a4 + 1)) dX5_firstFarthest_44 (k := 5) rfl rfl (by decide) rfl ?_
        refine x_goto (pc := 47) (tgt := 7) dX5_firstFarthest_47 (by decide) ?_
        exact x_sub [4, 5, 2, 1, 0] rfl h
set_option maxRecDepth 100000 in
set_option maxHeartbeats 4000000 in
theorem t_X5_widthAround_0 {l : Launch} {G : Gx} {P : Int32 → Mem → Prop} {s : Nat} (hs : Sv G s) (a1 : Int32) (mem : Mem)
    (h : ∃ Q1 : Int32 → Mem → Prop, CtI l M_X5_firstWideEnd G [.ref (gA G s), .int a1] mem Q1 ∧ ∀ (r3 : Int32) (m4 : Mem), Q1 r3 m4 → (∃ Q6 : Int32 → Mem → Prop, CtI l M_X5_greatestFrom G [.ref (gA G s), .int r3] m4 Q6 ∧ ∀ (r8 : Int32) (m9 : Mem), Q6 r8 m9 → (P r8 m9))) :
    XI l M_X5_widthAround G P mem 0 [(0, .ref (gA G s)), (1, .int a1)] [] := by
  refine x_aload_n (pc := 0) dX5_widthAround_0 0 rfl rfl ?_
  refine x_aload_n (pc := 1) dX5_widthAround_1 0 rfl rfl ?_
  refine x_iload_n (pc := 2) dX5_widthAround_2 1 rfl rfl ?_
  obtain ⟨Q1, hc2, h⟩ := h
  refine x_callVI (pc := 3) s hc2 ok_X5_firstWideEnd dX5_widthAround_3 tb_394 ⟨⟨rfl, rfl⟩, ⟨by decide, by decide⟩, by decide, by decide⟩ (Sv_K0 hs) (Sv_c0 hs _) rfl (As := [.int a1]) rfl rfl (Nat.le_of_ble_eq_true rfl) (fun r3 m4 q5 => ?_)
  have h := h r3 m4 q5
  obtain ⟨Q6, hc7, h⟩ := h
  refine x_callVI (pc := 6) s hc7 ok_X5_greatestFrom dX5_widthAround_6 tb_398 ⟨⟨rfl, rfl⟩, ⟨by decide, by decide⟩, by decide, by decide⟩ (Sv_K0 hs) (Sv_c0 hs _) rfl (As := [.int r3]) rfl rfl (Nat.le_of_ble_eq_true rfl) (fun r8 m9 q10 => ?_)
  have h := h r8 m9 q10
  exact x_endI (pc := 9) dX5_widthAround_9 rfl h
set_option maxRecDepth 100000 in
set_option maxHeartbeats 4000000 in
theorem t_X5_firstWideEnd_0 {l : Launch} {G : Gx} {P : Int32 → Mem → Prop} {s : Nat} (hs : Sv G s) (a1 : Int32) (mem : Mem)
    (h : XI l M_X5_firstWideEnd G P mem 7 [(0, .ref (gA G s)), (1, .int a1), (2, .int a1), (3, .int (-1)), (4, .int 0)] []) :
    XI l M_X5_firstWideEnd G P mem 0 [(0, .ref (gA G s)), (1, .int a1)] [] := by
  refine x_iload_n (pc := 0) dX5_firstWideEnd_0 1 rfl rfl ?_
  refine x_istore_n (pc := 1) dX5_firstWideEnd_1 rfl (by decide) rfl ?_
  refine x_iconst (pc := 2) (v := (-1)) dX5_firstWideEnd_2 (by decide) ?_
  refine x_istore_n (pc := 3) dX5_firstWideEnd_3 rfl (by decide) rfl ?_
  refine x_iconst (pc := 4) (v := 0) dX5_firstWideEnd_4 (by decide) ?_
  refine x_istore (pc := 5) dX5_firstWideEnd_5 (by decide) rfl ?_
  exact x_sub [3, 4, 2, 1, 0] rfl h
set_option maxRecDepth 100000 in
set_option maxHeartbeats 4000000 in
theorem t_X5_firstWideEnd_7 {l : Launch} {G : Gx} {P : Int32 → Mem → Prop} {s : Nat} (hs : Sv G s) (a1 : Int32) (a2 : Int32) (a3 : Int32) (a4 : Int32) (mem : Mem)
    (h : ((mem s 1) ≤ a4 → (P a2 mem)) ∧ (¬ (mem s 1) ≤ a4 → (∃ Q2 : Int32 → Mem → Prop, CtI l M_X5_joined G [.ref (gA G s), .int a4, .int a1] mem Q2 ∧ ∀ (r4 : Int32) (m5 : Mem), Q2 r4 m5 → ((r4 = 0 → (XI l M_X5_firstWideEnd G P m5 7 [(0, .ref (gA G s)), (1, .int a1), (2, .int a2), (3, .int a3), (4, .int (a4 + 1))] [])) ∧ (¬ r4 = 0 → (∃ Q8 : Int32 → Mem → Prop, CtI l M_X5_greatestFrom G [.ref (gA G s), .int a4] m5 Q8 ∧ ∀ (r10 : Int32) (m11 : Mem), Q8 r10 m11 → ((r10 ≤ a3 → (XI l M_X5_firstWideEnd G P m11 7 [(0, .ref (gA G s)), (1, .int a1), (2, .int a2), (3, .int a3), (4, .int (a4 + 1))] [])) ∧ (¬ r10 ≤ a3 → (∃ Q14 : Int32 → Mem → Prop, CtI l M_X5_greatestFrom G [.ref (gA G s), .int a4] m11 Q14 ∧ ∀ (r16 : Int32) (m17 : Mem), Q14 r16 m17 → (XI l M_X5_firstWideEnd G P m17 7 [(0, .ref (gA G s)), (1, .int a1), (2, .int a4), (3, .int r16), (4, .int (a4 + 1))] [])))))))))) :
    XI l M_X5_firstWideEnd G P mem 7 [(0, .ref (gA G s)), (1, .int a1), (2, .int a2), (3, .int a3), (4, .int a4)] [] := by
  refine x_iload (pc := 7) dX5_firstWideEnd_7 4 rfl ?_
  refine x_aload_n (pc := 9) dX5_firstWideEnd_9 0 rfl rfl ?_
  refine x_get (pc := 10) s 1 dX5_firstWideEnd_10 (Sv_K0 hs) (Sv_c0 hs _) rfl inX5 (by decide) tb_93 rfl rfl ?_
  refine x_icmp_ge (pc := 13) (tgt := 52) dX5_firstWideEnd_13 (by decide) (fun c1 => ?_) (fun c1 => ?_)
  · have h := h.1 c1
    refine x_iload_n (pc := 52) dX5_firstWideEnd_52 2 rfl rfl ?_
    exact x_endI (pc := 53) dX5_firstWideEnd_53 rfl h
  · have h := h.2 c1
    refine x_aload_n (pc := 16) dX5_firstWideEnd_16 0 rfl rfl ?_
    refine x_iload (pc := 17) dX5_firstWideEnd_17 4 rfl ?_
    refine x_iload_n (pc := 19) dX5_firstWideEnd_19 1 rfl rfl ?_
    obtain ⟨Q2, hc3, h⟩ := h
    refine x_callVI (pc := 20) s hc3 ok_X5_joined dX5_firstWideEnd_20 tb_300 ⟨⟨rfl, rfl⟩, ⟨by decide, by decide⟩, by decide, by decide⟩ (Sv_K0 hs) (Sv_c0 hs _) rfl (As := [.int a4, .int a1]) rfl rfl (Nat.le_of_ble_eq_true rfl) (fun r4 m5 q6 => ?_)
    have h := h r4 m5 q6
    refine x_if_eq (pc := 23) (tgt := 46) dX5_firstWideEnd_23 (by decide) (fun c7 => ?_) (fun c7 => ?_)
    · have h := h.1 c7
      refine x_iinc (pc := 46) (v := (a4 + 1)) dX5_firstWideEnd_46 (k := 4) rfl rfl (by decide) rfl ?_
      refine x_goto (pc := 49) (tgt := 7) dX5_firstWideEnd_49 (by decide) ?_
      exact x_sub [1, 2, 3, 4, 0] rfl h
    · have h := h.2 c7
      refine x_aload_n (pc := 26) dX5_firstWideEnd_26 0 rfl rfl ?_
      refine x_iload (pc := 27) dX5_firstWideEnd_27 4 rfl ?_
      obtain ⟨Q8, hc9, h⟩ := h
      refine x_callVI (pc := 29) s hc9 ok_X5_greatestFrom dX5_firstWideEnd_29 tb_398 ⟨⟨rfl, rfl⟩, ⟨by decide, by decide⟩, by decide, by decide⟩ (Sv_K0 hs) (Sv_c0 hs _) rfl (As := [.int a4]) rfl rfl (Nat.le_of_ble_eq_true rfl) (fun r10 m11 q12 => ?_)
      have h := h r10 m11 q12
      refine x_iload_n (pc := 32) dX5_firstWideEnd_32 3 rfl rfl ?_
      refine x_icmp_le (pc := 33) (tgt := 46) dX5_firstWideEnd_33 (by decide) (fun c13 => ?_) (fun c13 => ?_)
      · have h := h.1 c13
        refine x_iinc (pc := 46) (v := (a4 + 1)) dX5_firstWideEnd_46 (k := 4) rfl rfl (by decide) rfl ?_
        refine x_goto (pc := 49) (tgt := 7) dX5_firstWideEnd_49 (by decide) ?_
        exact x_sub [1, 2, 3, 4, 0] rfl h
      · have h := h.2 c13
        refine x_iload (pc := 36) dX5_firstWideEnd_36 4 rfl ?_
        refine x_istore_n (pc := 38) dX5_firstWideEnd_38 rfl (by decide) rfl ?_
        refine x_aload_n (pc := 39) dX5_firstWideEnd_39 1 rfl rfl ?_
        refine x_iload (pc := 40) dX5_firstWideEnd_40 4 rfl ?_
        obtain ⟨Q14, hc15, h⟩ := h
        refine x_callVI (pc := 42) s hc15 ok_X5_greatestFrom dX5_firstWideEnd_42 tb_398 ⟨⟨rfl, rfl⟩, ⟨by decide, by decide⟩, by decide, by decide⟩ (Sv_K0 hs) (Sv_c0 hs _) rfl (As := [.int a4]) rfl rfl (Nat.le_of_ble_eq_true rfl) (fun r16 m17 q18 => ?_)
        have h := h r16 m17 q18
        refine x_istore_n (pc := 45) dX5_firstWideEnd_45 rfl (by decide) rfl ?_
        refine x_iinc (pc := 46) (v := (a4 + 1)) dX5_firstWideEnd_46 (k := 4) rfl rfl (by decide) rfl ?_
        refine x_goto (pc := 49) (tgt := 7) dX5_firstWideEnd_49 (by decide) ?_
        exact x_sub [3, 4, 2, 1, 0] rfl h
set_option maxRecDepth 100000 in
set_option maxHeartbeats 4000000 in
theorem t_X5_middleOf_0 {l : Launch} {G : Gx} {P : Int32 → Mem → Prop} {s : Nat} (hs : Sv G s) (a1 : Int32) (mem : Mem)
    (h : XI l M_X5_middleOf G P mem 8 [(0, .ref (gA G s)), (1, .int a1), (2, .int a1), (3, .int 1000000000), (4, .int 0)] []) :
    XI l M_X5_middleOf G P mem 0 [(0, .ref (gA G s)), (1, .int a1)] [] := by
  refine x_iload_n (pc := 0) dX5_middleOf_0 1 rfl rfl ?_
  refine x_istore_n (pc := 1) dX5_middleOf_1 rfl (by decide) rfl ?_
  refine x_ldc (pc := 2) (v := 1000000000) dX5_middleOf_2 tb_413 ?_
  refine x_istore_n (pc := 4) dX5_middleOf_4 rfl (by decide) rfl ?_
  refine x_iconst (pc := 5) (v := 0) dX5_middleOf_5 (by decide) ?_
  refine x_istore (pc := 6) dX5_middleOf_6 (by decide) rfl ?_
  exact x_sub [3, 4, 2, 1, 0] rfl h
set_option maxRecDepth 100000 in
set_option maxHeartbeats 4000000 in
theorem t_X5_middleOf_8 {l : Launch} {G : Gx} {P : Int32 → Mem → Prop} {s : Nat} (hs : Sv G s) (a1 : Int32) (a2 : Int32) (a3 : Int32) (a4 : Int32) (mem : Mem)
    (h : ((mem s 1) ≤ a4 → (P a2 mem)) ∧ (¬ (mem s 1) ≤ a4 → (∃ Q2 : Int32 → Mem → Prop, CtI l M_X5_joined G [.ref (gA G s), .int a4, .int a1] mem Q2 ∧ ∀ (r4 : Int32) (m5 : Mem), Q2 r4 m5 → ((r4 = 0 → (XI l M_X5_middleOf G P m5 8 [(0, .ref (gA G s)), (1, .int a1), (2, .int a2), (3, .int a3), (4, .int (a4 + 1))] [])) ∧ (¬ r4 = 0 → (∃ Q8 : Int32 → Mem → Prop, CtI l M_X5_greatestFrom G [.ref (gA G s), .int a4] m5 Q8 ∧ ∀ (r10 : Int32) (m11 : Mem), Q8 r10 m11 → ((a3 ≤ r10 → (XI l M_X5_middleOf G P m11 8 [(0, .ref (gA G s)), (1, .int a1), (2, .int a2), (3, .int a3), (4, .int (a4 + 1))] [])) ∧ (¬ a3 ≤ r10 → (∃ Q14 : Int32 → Mem → Prop, CtI l M_X5_greatestFrom G [.ref (gA G s), .int a4] m11 Q14 ∧ ∀ (r16 : Int32) (m17 : Mem), Q14 r16 m17 → (XI l M_X5_middleOf G P m17 8 [(0, .ref (gA G s)), (1, .int a1), (2, .int a4), (3, .int r16), (4, .int (a4 + 1))] [])))))))))) :
    XI l M_X5_middleOf G P mem 8 [(0, .ref (gA G s)), (1, .int a1), (2, .int a2), (3, .int a3), (4, .int a4)] [] := by
  refine x_iload (pc := 8) dX5_middleOf_8 4 rfl ?_
  refine x_aload_n (pc := 10) dX5_middleOf_10 0 rfl rfl ?_
  refine x_get (pc := 11) s 1 dX5_middleOf_11 (Sv_K0 hs) (Sv_c0 hs _) rfl inX5 (by decide) tb_93 rfl rfl ?_
  refine x_icmp_ge (pc := 14) (tgt := 53) dX5_middleOf_14 (by decide) (fun c1 => ?_) (fun c1 => ?_)
  · have h := h.1 c1
    refine x_iload_n (pc := 53) dX5_middleOf_53 2 rfl rfl ?_
    exact x_endI (pc := 54) dX5_middleOf_54 rfl h
  · have h := h.2 c1
    refine x_aload_n (pc := 17) dX5_middleOf_17 0 rfl rfl ?_
    refine x_iload (pc := 18) dX5_middleOf_18 4 rfl ?_
    refine x_iload_n (pc := 20) dX5_middleOf_20 1 rfl rfl ?_
    obtain ⟨Q2, hc3, h⟩ := h
    refine x_callVI (pc := 21) s hc3 ok_X5_joined dX5_middleOf_21 tb_300 ⟨⟨rfl, rfl⟩, ⟨by decide, by decide⟩, by decide, by decide⟩ (Sv_K0 hs) (Sv_c0 hs _) rfl (As := [.int a4, .int a1]) rfl rfl (Nat.le_of_ble_eq_true rfl) (fun r4 m5 q6 => ?_)
    have h := h r4 m5 q6
    refine x_if_eq (pc := 24) (tgt := 47) dX5_middleOf_24 (by decide) (fun c7 => ?_) (fun c7 => ?_)
    · have h := h.1 c7
      refine x_iinc (pc := 47) (v := (a4 + 1)) dX5_middleOf_47 (k := 4) rfl rfl (by decide) rfl ?_
      refine x_goto (pc := 50) (tgt := 8) dX5_middleOf_50 (by decide) ?_
      exact x_sub [1, 2, 3, 4, 0] rfl h
    · have h := h.2 c7
      refine x_aload_n (pc := 27) dX5_middleOf_27 0 rfl rfl ?_
      refine x_iload (pc := 28) dX5_middleOf_28 4 rfl ?_
      obtain ⟨Q8, hc9, h⟩ := h
      refine x_callVI (pc := 30) s hc9 ok_X5_greatestFrom dX5_middleOf_30 tb_398 ⟨⟨rfl, rfl⟩, ⟨by decide, by decide⟩, by decide, by decide⟩ (Sv_K0 hs) (Sv_c0 hs _) rfl (As := [.int a4]) rfl rfl (Nat.le_of_ble_eq_true rfl) (fun r10 m11 q12 => ?_)
      have h := h r10 m11 q12
      refine x_iload_n (pc := 33) dX5_middleOf_33 3 rfl rfl ?_
      refine x_icmp_ge (pc := 34) (tgt := 47) dX5_middleOf_34 (by decide) (fun c13 => ?_) (fun c13 => ?_)
      · have h := h.1 c13
        refine x_iinc (pc := 47) (v := (a4 + 1)) dX5_middleOf_47 (k := 4) rfl rfl (by decide) rfl ?_
        refine x_goto (pc := 50) (tgt := 8) dX5_middleOf_50 (by decide) ?_
        exact x_sub [1, 2, 3, 4, 0] rfl h
      · have h := h.2 c13
        refine x_iload (pc := 37) dX5_middleOf_37 4 rfl ?_
        refine x_istore_n (pc := 39) dX5_middleOf_39 rfl (by decide) rfl ?_
        refine x_aload_n (pc := 40) dX5_middleOf_40 1 rfl rfl ?_
        refine x_iload (pc := 41) dX5_middleOf_41 4 rfl ?_
        obtain ⟨Q14, hc15, h⟩ := h
        refine x_callVI (pc := 43) s hc15 ok_X5_greatestFrom dX5_middleOf_43 tb_398 ⟨⟨rfl, rfl⟩, ⟨by decide, by decide⟩, by decide, by decide⟩ (Sv_K0 hs) (Sv_c0 hs _) rfl (As := [.int a4]) rfl rfl (Nat.le_of_ble_eq_true rfl) (fun r16 m17 q18 => ?_)
        have h := h r16 m17 q18
        refine x_istore_n (pc := 46) dX5_middleOf_46 rfl (by decide) rfl ?_
        refine x_iinc (pc := 47) (v := (a4 + 1)) dX5_middleOf_47 (k := 4) rfl rfl (by decide) rfl ?_
        refine x_goto (pc := 50) (tgt := 8) dX5_middleOf_50 (by decide) ?_
        exact x_sub [3, 4, 2, 1, 0] rfl h
set_option maxRecDepth 100000 in
set_option maxHeartbeats 4000000 in
theorem t_X5_priceOf_0 {l : Launch} {G : Gx} {P : Int32 → Mem → Prop} {s : Nat} (hs : Sv G s) (a1 : Int32) (mem : Mem)
    (h : XI l M_X5_priceOf G P mem 4 [(0, .ref (gA G s)), (1, .int a1), (2, .int 0), (3, .int 0)] []) :
    XI l M_X5_priceOf G P mem 0 [(0, .ref (gA G s)), (1, .int a1)] [] := by
  refine x_iconst (pc := 0) (v := 0) dX5_priceOf_0 (by decide) ?_
  refine x_istore_n (pc := 1) dX5_priceOf_1 rfl (by decide) rfl ?_
  refine x_iconst (pc := 2) (v := 0) dX5_priceOf_2 (by decide) ?_
  refine x_istore_n (pc := 3) dX5_priceOf_3 rfl (by decide) rfl ?_
  exact x_sub [2, 3, 1, 0] rfl h
set_option maxRecDepth 100000 in
set_option maxHeartbeats 4000000 in
theorem t_X5_priceOf_4 {l : Launch} {G : Gx} {P : Int32 → Mem → Prop} {s : Nat} (hs : Sv G s) (a1 : Int32) (a2 : Int32) (a3 : Int32) (mem : Mem)
    (h : ((mem s 1) ≤ a3 → (P a2 mem)) ∧ (¬ (mem s 1) ≤ a3 → (∃ Q2 : Int32 → Mem → Prop, CtI l M_X5_joined G [.ref (gA G s), .int a3, .int a1] mem Q2 ∧ ∀ (r4 : Int32) (m5 : Mem), Q2 r4 m5 → ((r4 = 0 → (XI l M_X5_priceOf G P m5 4 [(0, .ref (gA G s)), (1, .int a1), (2, .int a2), (3, .int (a3 + 1))] [])) ∧ (¬ r4 = 0 → (∃ Q8 : Int32 → Mem → Prop, CtI l M_X1_weightOf G [.ref (gA G (s - 15)), .int a3] m5 Q8 ∧ ∀ (r10 : Int32) (m11 : Mem), Q8 r10 m11 → (∃ Q13 : Int32 → Mem → Prop, CtI l M_X5_between G [.ref (gA G s), .int a3, .int a1] m11 Q13 ∧ ∀ (r15 : Int32) (m16 : Mem), Q13 r15 m16 → (XI l M_X5_priceOf G P m16 4 [(0, .ref (gA G s)), (1, .int a1), (2, .int (a2 + (r10 * r15))), (3, .int (a3 + 1))] [])))))))) :
    XI l M_X5_priceOf G P mem 4 [(0, .ref (gA G s)), (1, .int a1), (2, .int a2), (3, .int a3)] [] := by
  refine x_iload_n (pc := 4) dX5_priceOf_4 3 rfl rfl ?_
  refine x_aload_n (pc := 5) dX5_priceOf_5 0 rfl rfl ?_
  refine x_get (pc := 6) s 1 dX5_priceOf_6 (Sv_K0 hs) (Sv_c0 hs _) rfl inX5 (by decide) tb_93 rfl rfl ?_
  refine x_icmp_ge (pc := 9) (tgt := 45) dX5_priceOf_9 (by decide) (fun c1 => ?_) (fun c1 => ?_)
  · have h := h.1 c1
    refine x_iload_n (pc := 45) dX5_priceOf_45 2 rfl rfl ?_
    exact x_endI (pc := 46) dX5_priceOf_46 rfl h
  · have h := h.2 c1
    refine x_aload_n (pc := 12) dX5_priceOf_12 0 rfl rfl ?_
    refine x_iload_n (pc := 13) dX5_priceOf_13 3 rfl rfl ?_
    refine x_iload_n (pc := 14) dX5_priceOf_14 1 rfl rfl ?_
    obtain ⟨Q2, hc3, h⟩ := h
    refine x_callVI (pc := 15) s hc3 ok_X5_joined dX5_priceOf_15 tb_300 ⟨⟨rfl, rfl⟩, ⟨by decide, by decide⟩, by decide, by decide⟩ (Sv_K0 hs) (Sv_c0 hs _) rfl (As := [.int a3, .int a1]) rfl rfl (Nat.le_of_ble_eq_true rfl) (fun r4 m5 q6 => ?_)
    have h := h r4 m5 q6
    refine x_if_eq (pc := 18) (tgt := 39) dX5_priceOf_18 (by decide) (fun c7 => ?_) (fun c7 => ?_)
    · have h := h.1 c7
      refine x_iinc (pc := 39) (v := (a3 + 1)) dX5_priceOf_39 (k := 3) rfl rfl (by decide) rfl ?_
      refine x_goto (pc := 42) (tgt := 4) dX5_priceOf_42 (by decide) ?_
      exact x_sub [1, 2, 3, 0] rfl h
    · have h := h.2 c7
      refine x_iload_n (pc := 21) dX5_priceOf_21 2 rfl rfl ?_
      refine x_aload_n (pc := 22) dX5_priceOf_22 0 rfl rfl ?_
      refine x_get (pc := 23) s 0 dX5_priceOf_23 (Sv_K0 hs) (Sv_c0 hs _) rfl inX5 (by decide) tb_92 rfl rfl ?_
      refine x_iload_n (pc := 26) dX5_priceOf_26 3 rfl rfl ?_
      obtain ⟨Q8, hc9, h⟩ := h
      refine x_callVI (pc := 27) (s - 15) hc9 ok_X1_weightOf dX5_priceOf_27 tb_426 ⟨⟨rfl, rfl⟩, ⟨by decide, by decide⟩, by decide, by decide⟩ (Fo_K0 (Sv_Fo hs)) (Fo_c0 (Sv_Fo hs) _) rfl (As := [.int a3]) rfl rfl (Nat.le_of_ble_eq_true rfl) (fun r10 m11 q12 => ?_)
      have h := h r10 m11 q12
      refine x_aload_n (pc := 30) dX5_priceOf_30 0 rfl rfl ?_
      refine x_iload_n (pc := 31) dX5_priceOf_31 3 rfl rfl ?_
      refine x_iload_n (pc := 32) dX5_priceOf_32 1 rfl rfl ?_
      obtain ⟨Q13, hc14, h⟩ := h
      refine x_callVI (pc := 33) s hc14 ok_X5_between dX5_priceOf_33 tb_304 ⟨⟨rfl, rfl⟩, ⟨by decide, by decide⟩, by decide, by decide⟩ (Sv_K0 hs) (Sv_c0 hs _) rfl (As := [.int a3, .int a1]) rfl rfl (Nat.le_of_ble_eq_true rfl) (fun r15 m16 q17 => ?_)
      have h := h r15 m16 q17
      refine x_imul (pc := 36) dX5_priceOf_36 ?_
      refine x_iadd (pc := 37) dX5_priceOf_37 ?_
      refine x_istore_n (pc := 38) dX5_priceOf_38 rfl (by decide) rfl ?_
      refine x_iinc (pc := 39) (v := (a3 + 1)) dX5_priceOf_39 (k := 3) rfl rfl (by decide) rfl ?_
      refine x_goto (pc := 42) (tgt := 4) dX5_priceOf_42 (by decide) ?_
      exact x_sub [2, 3, 1, 0] rfl h
set_option maxRecDepth 100000 in
set_option maxHeartbeats 4000000 in
theorem t_X5_cheapestOf_0 {l : Launch} {G : Gx} {P : Int32 → Mem → Prop} {s : Nat} (hs : Sv G s) (a1 : Int32) (mem : Mem)
    (h : XI l M_X5_cheapestOf G P mem 8 [(0, .ref (gA G s)), (1, .int a1), (2, .int a1), (3, .int 1000000000), (4, .int 0)] []) :
    XI l M_X5_cheapestOf G P mem 0 [(0, .ref (gA G s)), (1, .int a1)] [] := by
  refine x_iload_n (pc := 0) dX5_cheapestOf_0 1 rfl rfl ?_
  refine x_istore_n (pc := 1) dX5_cheapestOf_1 rfl (by decide) rfl ?_
  refine x_ldc (pc := 2) (v := 1000000000) dX5_cheapestOf_2 tb_413 ?_
  refine x_istore_n (pc := 4) dX5_cheapestOf_4 rfl (by decide) rfl ?_
  refine x_iconst (pc := 5) (v := 0) dX5_cheapestOf_5 (by decide) ?_
  refine x_istore (pc := 6) dX5_cheapestOf_6 (by decide) rfl ?_
  exact x_sub [3, 4, 2, 1, 0] rfl h
set_option maxRecDepth 100000 in
set_option maxHeartbeats 4000000 in
theorem t_X5_cheapestOf_8 {l : Launch} {G : Gx} {P : Int32 → Mem → Prop} {s : Nat} (hs : Sv G s) (a1 : Int32) (a2 : Int32) (a3 : Int32) (a4 : Int32) (mem : Mem)
    (h : ((mem s 1) ≤ a4 → (P a2 mem)) ∧ (¬ (mem s 1) ≤ a4 → (∃ Q2 : Int32 → Mem → Prop, CtI l M_X5_joined G [.ref (gA G s), .int a4, .int a1] mem Q2 ∧ ∀ (r4 : Int32) (m5 : Mem), Q2 r4 m5 → ((r4 = 0 → (XI l M_X5_cheapestOf G P m5 8 [(0, .ref (gA G s)), (1, .int a1), (2, .int a2), (3, .int a3), (4, .int (a4 + 1))] [])) ∧ (¬ r4 = 0 → (∃ Q8 : Int32 → Mem → Prop, CtI l M_X5_priceOf G [.ref (gA G s), .int a4] m5 Q8 ∧ ∀ (r10 : Int32) (m11 : Mem), Q8 r10 m11 → ((a3 ≤ r10 → (XI l M_X5_cheapestOf G P m11 8 [(0, .ref (gA G s)), (1, .int a1), (2, .int a2), (3, .int a3), (4, .int (a4 + 1))] [])) ∧ (¬ a3 ≤ r10 → (∃ Q14 : Int32 → Mem → Prop, CtI l M_X5_priceOf G [.ref (gA G s), .int a4] m11 Q14 ∧ ∀ (r16 : Int32) (m17 : Mem), Q14 r16 m17 → (XI l M_X5_cheapestOf G P m17 8 [(0, .ref (gA G s)), (1, .int a1), (2, .int a4), (3, .int r16), (4, .int (a4 + 1))] [])))))))))) :
    XI l M_X5_cheapestOf G P mem 8 [(0, .ref (gA G s)), (1, .int a1), (2, .int a2), (3, .int a3), (4, .int a4)] [] := by
  refine x_iload (pc := 8) dX5_cheapestOf_8 4 rfl ?_
  refine x_aload_n (pc := 10) dX5_cheapestOf_10 0 rfl rfl ?_
  refine x_get (pc := 11) s 1 dX5_cheapestOf_11 (Sv_K0 hs) (Sv_c0 hs _) rfl inX5 (by decide) tb_93 rfl rfl ?_
  refine x_icmp_ge (pc := 14) (tgt := 53) dX5_cheapestOf_14 (by decide) (fun c1 => ?_) (fun c1 => ?_)
  · have h := h.1 c1
    refine x_iload_n (pc := 53) dX5_cheapestOf_53 2 rfl rfl ?_
    exact x_endI (pc := 54) dX5_cheapestOf_54 rfl h
  · have h := h.2 c1
    refine x_aload_n (pc := 17) dX5_cheapestOf_17 0 rfl rfl ?_
    refine x_iload (pc := 18) dX5_cheapestOf_18 4 rfl ?_
    refine x_iload_n (pc := 20) dX5_cheapestOf_20 1 rfl rfl ?_
    obtain ⟨Q2, hc3, h⟩ := h
    refine x_callVI (pc := 21) s hc3 ok_X5_joined dX5_cheapestOf_21 tb_300 ⟨⟨rfl, rfl⟩, ⟨by decide, by decide⟩, by decide, by decide⟩ (Sv_K0 hs) (Sv_c0 hs _) rfl (As := [.int a4, .int a1]) rfl rfl (Nat.le_of_ble_eq_true rfl) (fun r4 m5 q6 => ?_)
    have h := h r4 m5 q6
    refine x_if_eq (pc := 24) (tgt := 47) dX5_cheapestOf_24 (by decide) (fun c7 => ?_) (fun c7 => ?_)
    · have h := h.1 c7
      refine x_iinc (pc := 47) (v := (a4 + 1)) dX5_cheapestOf_47 (k := 4) rfl rfl (by decide) rfl ?_
      refine x_goto (pc := 50) (tgt := 8) dX5_cheapestOf_50 (by decide) ?_
      exact x_sub [1, 2, 3, 4, 0] rfl h
    · have h := h.2 c7
      refine x_aload_n (pc := 27) dX5_cheapestOf_27 0 rfl rfl ?_
      refine x_iload (pc := 28) dX5_cheapestOf_28 4 rfl ?_
      obtain ⟨Q8, hc9, h⟩ := h
      refine x_callVI (pc := 30) s hc9 ok_X5_priceOf dX5_cheapestOf_30 tb_422 ⟨⟨rfl, rfl⟩, ⟨by decide, by decide⟩, by decide, by decide⟩ (Sv_K0 hs) (Sv_c0 hs _) rfl (As := [.int a4]) rfl rfl (Nat.le_of_ble_eq_true rfl) (fun r10 m11 q12 => ?_)
      have h := h r10 m11 q12
      refine x_iload_n (pc := 33) dX5_cheapestOf_33 3 rfl rfl ?_
      refine x_icmp_ge (pc := 34) (tgt := 47) dX5_cheapestOf_34 (by decide) (fun c13 => ?_) (fun c13 => ?_)
      · have h := h.1 c13
        refine x_iinc (pc := 47) (v := (a4 + 1)) dX5_cheapestOf_47 (k := 4) rfl rfl (by decide) rfl ?_
        refine x_goto (pc := 50) (tgt := 8) dX5_cheapestOf_50 (by decide) ?_
        exact x_sub [1, 2, 3, 4, 0] rfl h
      · have h := h.2 c13
        refine x_iload (pc := 37) dX5_cheapestOf_37 4 rfl ?_
        refine x_istore_n (pc := 39) dX5_cheapestOf_39 rfl (by decide) rfl ?_
        refine x_aload_n (pc := 40) dX5_cheapestOf_40 1 rfl rfl ?_
        refine x_iload (pc := 41) dX5_cheapestOf_41 4 rfl ?_
        obtain ⟨Q14, hc15, h⟩ := h
        refine x_callVI (pc := 43) s hc15 ok_X5_priceOf dX5_cheapestOf_43 tb_422 ⟨⟨rfl, rfl⟩, ⟨by decide, by decide⟩, by decide, by decide⟩ (Sv_K0 hs) (Sv_c0 hs _) rfl (As := [.int a4]) rfl rfl (Nat.le_of_ble_eq_true rfl) (fun r16 m17 q18 => ?_)
        have h := h r16 m17 q18
        refine x_istore_n (pc := 46) dX5_cheapestOf_46 rfl (by decide) rfl ?_
        refine x_iinc (pc := 47) (v := (a4 + 1)) dX5_cheapestOf_47 (k := 4) rfl rfl (by decide) rfl ?_
        refine x_goto (pc := 50) (tgt := 8) dX5_cheapestOf_50 (by decide) ?_
        exact x_sub [3, 4, 2, 1, 0] rfl h
set_option maxRecDepth 100000 in
set_option maxHeartbeats 4000000 in
theorem t_X5_meetingOf_0 {l : Launch} {G : Gx} {P : Int32 → Mem → Prop} {s : Nat} (hs : Sv G s) (a1 : Int32) (a2 : Int32) (a3 : Int32) (mem : Mem)
    (h : ∃ Q1 : Int32 → Mem → Prop, CtI l M_X5_joined G [.ref (gA G s), .int a1, .int a2] mem Q1 ∧ ∀ (r3 : Int32) (m4 : Mem), Q1 r3 m4 → ((r3 = 0 → (P (-9) m4)) ∧ (¬ r3 = 0 → (∃ Q7 : Int32 → Mem → Prop, CtI l M_X5_joined G [.ref (gA G s), .int a1, .int a3] m4 Q7 ∧ ∀ (r9 : Int32) (m10 : Mem), Q7 r9 m10 → ((¬ r9 = 0 → (XI l M_X5_meetingOf G P m10 24 [(0, .ref (gA G s)), (1, .int a1), (2, .int a2), (3, .int a3), (4, .int 0)] [])) ∧ (r9 = 0 → (P (-9) m10))))))) :
    XI l M_X5_meetingOf G P mem 0 [(0, .ref (gA G s)), (1, .int a1), (2, .int a2), (3, .int a3)] [] := by
  refine x_aload_n (pc := 0) dX5_meetingOf_0 0 rfl rfl ?_
  refine x_iload_n (pc := 1) dX5_meetingOf_1 1 rfl rfl ?_
  refine x_iload_n (pc := 2) dX5_meetingOf_2 2 rfl rfl ?_
  obtain ⟨Q1, hc2, h⟩ := h
  refine x_callVI (pc := 3) s hc2 ok_X5_joined dX5_meetingOf_3 tb_300 ⟨⟨rfl, rfl⟩, ⟨by decide, by decide⟩, by decide, by decide⟩ (Sv_K0 hs) (Sv_c0 hs _) rfl (As := [.int a1, .int a2]) rfl rfl (Nat.le_of_ble_eq_true rfl) (fun r3 m4 q5 => ?_)
  have h := h r3 m4 q5
  refine x_if_eq (pc := 6) (tgt := 18) dX5_meetingOf_6 (by decide) (fun c6 => ?_) (fun c6 => ?_)
  · have h := h.1 c6
    refine x_bipush (pc := 18) (v := (-9)) dX5_meetingOf_18 (by decide) ?_
    exact x_endI (pc := 20) dX5_meetingOf_20 rfl h
  · have h := h.2 c6
    refine x_aload_n (pc := 9) dX5_meetingOf_9 0 rfl rfl ?_
    refine x_iload_n (pc := 10) dX5_meetingOf_10 1 rfl rfl ?_
    refine x_iload_n (pc := 11) dX5_meetingOf_11 3 rfl rfl ?_
    obtain ⟨Q7, hc8, h⟩ := h
    refine x_callVI (pc := 12) s hc8 ok_X5_joined dX5_meetingOf_12 tb_300 ⟨⟨rfl, rfl⟩, ⟨by decide, by decide⟩, by decide, by decide⟩ (Sv_K0 hs) (Sv_c0 hs _) rfl (As := [.int a1, .int a3]) rfl rfl (Nat.le_of_ble_eq_true rfl) (fun r9 m10 q11 => ?_)
    have h := h r9 m10 q11
    refine x_if_ne (pc := 15) (tgt := 21) dX5_meetingOf_15 (by decide) (fun c12 => ?_) (fun c12 => ?_)
    · have h := h.1 c12
      refine x_iconst (pc := 21) (v := 0) dX5_meetingOf_21 (by decide) ?_
      refine x_istore (pc := 22) dX5_meetingOf_22 (by decide) rfl ?_
      exact x_sub [1, 2, 3, 4, 0] rfl h
    · have h := h.2 c12
      refine x_bipush (pc := 18) (v := (-9)) dX5_meetingOf_18 (by decide) ?_
      exact x_endI (pc := 20) dX5_meetingOf_20 rfl h
set_option maxRecDepth 100000 in
set_option maxHeartbeats 4000000 in
theorem t_X5_meetingOf_24 {l : Launch} {G : Gx} {P : Int32 → Mem → Prop} {s : Nat} (hs : Sv G s) (a1 : Int32) (a2 : Int32) (a3 : Int32) (a4 : Int32) (mem : Mem)
    (h : ((mem s 1) ≤ a4 → (P (-9) mem)) ∧ (¬ (mem s 1) ≤ a4 → (∃ Q2 : Int32 → Mem → Prop, CtI l M_X5_onPath G [.ref (gA G s), .int a4, .int a1, .int a2] mem Q2 ∧ ∀ (r4 : Int32) (m5 : Mem), Q2 r4 m5 → ((r4 = 0 → (XI l M_X5_meetingOf G P m5 24 [(0, .ref (gA G s)), (1, .int a1), (2, .int a2), (3, .int a3), (4, .int (a4 + 1))] [])) ∧ (¬ r4 = 0 → (∃ Q8 : Int32 → Mem → Prop, CtI l M_X5_onPath G [.ref (gA G s), .int a4, .int a2, .int a3] m5 Q8 ∧ ∀ (r10 : Int32) (m11 : Mem), Q8 r10 m11 → ((r10 = 0 → (XI l M_X5_meetingOf G P m11 24 [(0, .ref (gA G s)), (1, .int a1), (2, .int a2), (3, .int a3), (4, .int (a4 + 1))] [])) ∧ (¬ r10 = 0 → (∃ Q14 : Int32 → Mem → Prop, CtI l M_X5_onPath G [.ref (gA G s), .int a4, .int a1, .int a3] m11 Q14 ∧ ∀ (r16 : Int32) (m17 : Mem), Q14 r16 m17 → ((r16 = 0 → (XI l M_X5_meetingOf G P m17 24 [(0, .ref (gA G s)), (1, .int a1), (2, .int a2), (3, .int a3), (4, .int (a4 + 1))] [])) ∧ (¬ r16 = 0 → (P a4 m17)))))))))))) :
    XI l M_X5_meetingOf G P mem 24 [(0, .ref (gA G s)), (1, .int a1), (2, .int a2), (3, .int a3), (4, .int a4)] [] := by
  refine x_iload (pc := 24) dX5_meetingOf_24 4 rfl ?_
  refine x_aload_n (pc := 26) dX5_meetingOf_26 0 rfl rfl ?_
  refine x_get (pc := 27) s 1 dX5_meetingOf_27 (Sv_K0 hs) (Sv_c0 hs _) rfl inX5 (by decide) tb_93 rfl rfl ?_
  refine x_icmp_ge (pc := 30) (tgt := 75) dX5_meetingOf_30 (by decide) (fun c1 => ?_) (fun c1 => ?_)
  · have h := h.1 c1
    refine x_bipush (pc := 75) (v := (-9)) dX5_meetingOf_75 (by decide) ?_
    exact x_endI (pc := 77) dX5_meetingOf_77 rfl h
  · have h := h.2 c1
    refine x_aload_n (pc := 33) dX5_meetingOf_33 0 rfl rfl ?_
    refine x_iload (pc := 34) dX5_meetingOf_34 4 rfl ?_
    refine x_iload_n (pc := 36) dX5_meetingOf_36 1 rfl rfl ?_
    refine x_iload_n (pc := 37) dX5_meetingOf_37 2 rfl rfl ?_
    obtain ⟨Q2, hc3, h⟩ := h
    refine x_callVI (pc := 38) s hc3 ok_X5_onPath dX5_meetingOf_38 tb_440 ⟨⟨rfl, rfl⟩, ⟨by decide, by decide⟩, by decide, by decide⟩ (Sv_K0 hs) (Sv_c0 hs _) rfl (As := [.int a4, .int a1, .int a2]) rfl rfl (Nat.le_of_ble_eq_true rfl) (fun r4 m5 q6 => ?_)
    have h := h r4 m5 q6
    refine x_if_eq (pc := 41) (tgt := 69) dX5_meetingOf_41 (by decide) (fun c7 => ?_) (fun c7 => ?_)
    · have h := h.1 c7
      refine x_iinc (pc := 69) (v := (a4 + 1)) dX5_meetingOf_69 (k := 4) rfl rfl (by decide) rfl ?_
      refine x_goto (pc := 72) (tgt := 24) dX5_meetingOf_72 (by decide) ?_
      exact x_sub [1, 2, 3, 4, 0] rfl h
    · have h := h.2 c7
      refine x_aload_n (pc := 44) dX5_meetingOf_44 0 rfl rfl ?_
      refine x_iload (pc := 45) dX5_meetingOf_45 4 rfl ?_
      refine x_iload_n (pc := 47) dX5_meetingOf_47 2 rfl rfl ?_
      refine x_iload_n (pc := 48) dX5_meetingOf_48 3 rfl rfl ?_
      obtain ⟨Q8, hc9, h⟩ := h
      refine x_callVI (pc := 49) s hc9 ok_X5_onPath dX5_meetingOf_49 tb_440 ⟨⟨rfl, rfl⟩, ⟨by decide, by decide⟩, by decide, by decide⟩ (Sv_K0 hs) (Sv_c0 hs _) rfl (As := [.int a4, .int a2, .int a3]) rfl rfl (Nat.le_of_ble_eq_true rfl) (fun r10 m11 q12 => ?_)
      have h := h r10 m11 q12
      refine x_if_eq (pc := 52) (tgt := 69) dX5_meetingOf_52 (by decide) (fun c13 => ?_) (fun c13 => ?_)
      · have h := h.1 c13
        refine x_iinc (pc := 69) (v := (a4 + 1)) dX5_meetingOf_69 (k := 4) rfl rfl (by decide) rfl ?_
        refine x_goto (pc := 72) (tgt := 24) dX5_meetingOf_72 (by decide) ?_
        exact x_sub [1, 2, 3, 4, 0] rfl h
      · have h := h.2 c13
        refine x_aload_n (pc := 55) dX5_meetingOf_55 0 rfl rfl ?_
        refine x_iload (pc := 56) dX5_meetingOf_56 4 rfl ?_
        refine x_iload_n (pc := 58) dX5_meetingOf_58 1 rfl rfl ?_
        refine x_iload_n (pc := 59) dX5_meetingOf_59 3 rfl rfl ?_
        obtain ⟨Q14, hc15, h⟩ := h
        refine x_callVI (pc := 60) s hc15 ok_X5_onPath dX5_meetingOf_60 tb_440 ⟨⟨rfl, rfl⟩, ⟨by decide, by decide⟩, by decide, by decide⟩ (Sv_K0 hs) (Sv_c0 hs _) rfl (As := [.int a4, .int a1, .int a3]) rfl rfl (Nat.le_of_ble_eq_true rfl) (fun r16 m17 q18 => ?_)
        have h := h r16 m17 q18
        refine x_if_eq (pc := 63) (tgt := 69) dX5_meetingOf_63 (by decide) (fun c19 => ?_) (fun c19 => ?_)
        · have h := h.1 c19
          refine x_iinc (pc := 69) (v := (a4 + 1)) dX5_meetingOf_69 (k := 4) rfl rfl (by decide) rfl ?_
          refine x_goto (pc := 72) (tgt := 24) dX5_meetingOf_72 (by decide) ?_
          exact x_sub [1, 2, 3, 4, 0] rfl h
        · have h := h.2 c19
          refine x_iload (pc := 66) dX5_meetingOf_66 4 rfl ?_
          exact x_endI (pc := 68) dX5_meetingOf_68 rfl h
set_option maxRecDepth 100000 in
set_option maxHeartbeats 4000000 in
theorem t_X5_onPath_0 {l : Launch} {G : Gx} {P : Int32 → Mem → Prop} {s : Nat} (hs : Sv G s) (a1 : Int32) (a2 : Int32) (a3 : Int32) (mem : Mem)
    (h : ∃ Q1 : Int32 → Mem → Prop, CtI l M_X5_between G [.ref (gA G s), .int a2, .int a1] mem Q1 ∧ ∀ (r3 : Int32) (m4 : Mem), Q1 r3 m4 → (∃ Q6 : Int32 → Mem → Prop, CtI l M_X5_between G [.ref (gA G s), .int a1, .int a3] m4 Q6 ∧ ∀ (r8 : Int32) (m9 : Mem), Q6 r8 m9 → (∃ Q11 : Int32 → Mem → Prop, CtI l M_X5_between G [.ref (gA G s), .int a2, .int a3] m9 Q11 ∧ ∀ (r13 : Int32) (m14 : Mem), Q11 r13 m14 → ((¬ (r3 + r8) = r13 → (P 0 m14)) ∧ ((r3 + r8) = r13 → (P 1 m14)))))) :
    XI l M_X5_onPath G P mem 0 [(0, .ref (gA G s)), (1, .int a1), (2, .int a2), (3, .int a3)] [] := by
  refine x_aload_n (pc := 0) dX5_onPath_0 0 rfl rfl ?_
  refine x_iload_n (pc := 1) dX5_onPath_1 2 rfl rfl ?_
  refine x_iload_n (pc := 2) dX5_onPath_2 1 rfl rfl ?_
  obtain ⟨Q1, hc2, h⟩ := h
  refine x_callVI (pc := 3) s hc2 ok_X5_between dX5_onPath_3 tb_304 ⟨⟨rfl, rfl⟩, ⟨by decide, by decide⟩, by decide, by decide⟩ (Sv_K0 hs) (Sv_c0 hs _) rfl (As := [.int a2, .int a1]) rfl rfl (Nat.le_of_ble_eq_true rfl) (fun r3 m4 q5 => ?_)
  have h := h r3 m4 q5
  refine x_aload_n (pc := 6) dX5_onPath_6 0 rfl rfl ?_
  refine x_iload_n (pc := 7) dX5_onPath_7 1 rfl rfl ?_
  refine x_iload_n (pc := 8) dX5_onPath_8 3 rfl rfl ?_
  obtain ⟨Q6, hc7, h⟩ := h
  refine x_callVI (pc := 9) s hc7 ok_X5_between dX5_onPath_9 tb_304 ⟨⟨rfl, rfl⟩, ⟨by decide, by decide⟩, by decide, by decide⟩ (Sv_K0 hs) (Sv_c0 hs _) rfl (As := [.int a1, .int a3]) rfl rfl (Nat.le_of_ble_eq_true rfl) (fun r8 m9 q10 => ?_)
  have h := h r8 m9 q10
  refine x_iadd (pc := 12) dX5_onPath_12 ?_
  refine x_aload_n (pc := 13) dX5_onPath_13 0 rfl rfl ?_
  refine x_iload_n (pc := 14) dX5_onPath_14 2 rfl rfl ?_
  refine x_iload_n (pc := 15) dX5_onPath_15 3 rfl rfl ?_
  obtain ⟨Q11, hc12, h⟩ := h
  refine x_callVI (pc := 16) s hc12 ok_X5_between dX5_onPath_16 tb_304 ⟨⟨rfl, rfl⟩, ⟨by decide, by decide⟩, by decide, by decide⟩ (Sv_K0 hs) (Sv_c0 hs _) rfl (As := [.int a2, .int a3]) rfl rfl (Nat.le_of_ble_eq_true rfl) (fun r13 m14 q15 => ?_)
  have h := h r13 m14 q15
  refine x_icmp_ne (pc := 19) (tgt := 26) dX5_onPath_19 (by decide) (fun c16 => ?_) (fun c16 => ?_)
  · have h := h.1 c16
    refine x_iconst (pc := 26) (v := 0) dX5_onPath_26 (by decide) ?_
    exact x_endZ (pc := 27) dX5_onPath_27 rfl (Or.inl rfl) h
  · have h := h.2 c16
    refine x_iconst (pc := 22) (v := 1) dX5_onPath_22 (by decide) ?_
    refine x_goto (pc := 23) (tgt := 27) dX5_onPath_23 (by decide) ?_
    exact x_endZ (pc := 27) dX5_onPath_27 rfl (Or.inr rfl) h
set_option maxRecDepth 100000 in
set_option maxHeartbeats 4000000 in
theorem t_X5_goesOver_0 {l : Launch} {G : Gx} {P : Int32 → Mem → Prop} {s : Nat} (hs : Sv G s) (a1 : Int32) (a2 : Int32) (a3 : Int32) (a4 : Int32) (mem : Mem)
    (h : ∃ Q1 : Int32 → Mem → Prop, CtI l M_X1_edgeBetween G [.ref (gA G (s - 15)), .int a3, .int a4] mem Q1 ∧ ∀ (r3 : Int32) (m4 : Mem), Q1 r3 m4 → (∃ Q6 : Int32 → Mem → Prop, CtI l M_X5_between G [.ref (gA G s), .int a1, .int a3] m4 Q6 ∧ ∀ (r8 : Int32) (m9 : Mem), Q6 r8 m9 → (∃ Q11 : Int32 → Mem → Prop, CtI l M_X5_between G [.ref (gA G s), .int a4, .int a2] m9 Q11 ∧ ∀ (r13 : Int32) (m14 : Mem), Q11 r13 m14 → (∃ Q16 : Int32 → Mem → Prop, CtI l M_X5_between G [.ref (gA G s), .int a1, .int a4] m14 Q16 ∧ ∀ (r18 : Int32) (m19 : Mem), Q16 r18 m19 → (∃ Q21 : Int32 → Mem → Prop, CtI l M_X5_between G [.ref (gA G s), .int a3, .int a2] m19 Q21 ∧ ∀ (r23 : Int32) (m24 : Mem), Q21 r23 m24 → (∃ Q26 : Int32 → Mem → Prop, CtI l M_X5_between G [.ref (gA G s), .int a1, .int a2] m24 Q26 ∧ ∀ (r28 : Int32) (m29 : Mem), Q26 r28 m29 → ((¬ (if ((r18 + r3) + r23) < ((r8 + r3) + r13) then ((r18 + r3) + r23) else ((r8 + r3) + r13)) = r28 → (P 0 m29)) ∧ ((if ((r18 + r3) + r23) < ((r8 + r3) + r13) then ((r18 + r3) + r23) else ((r8 + r3) + r13)) = r28 → (P 1 m29))))))))) :
    XI l M_X5_goesOver G P mem 0 [(0, .ref (gA G s)), (1, .int a1), (2, .int a2), (3, .int a3), (4, .int a4)] [] := by
  refine x_aload_n (pc := 0) dX5_goesOver_0 0 rfl rfl ?_
  refine x_get (pc := 1) s 0 dX5_goesOver_1 (Sv_K0 hs) (Sv_c0 hs _) rfl inX5 (by decide) tb_92 rfl rfl ?_
  refine x_iload_n (pc := 4) dX5_goesOver_4 3 rfl rfl ?_
  refine x_iload (pc := 5) dX5_goesOver_5 4 rfl ?_
  obtain ⟨Q1, hc2, h⟩ := h
  refine x_callVI (pc := 7) (s - 15) hc2 ok_X1_edgeBetween dX5_goesOver_7 tb_289 ⟨⟨rfl, rfl⟩, ⟨by decide, by decide⟩, by decide, by decide⟩ (Fo_K0 (Sv_Fo hs)) (Fo_c0 (Sv_Fo hs) _) rfl (As := [.int a3, .int a4]) rfl rfl (Nat.le_of_ble_eq_true rfl) (fun r3 m4 q5 => ?_)
  have h := h r3 m4 q5
  refine x_istore (pc := 10) dX5_goesOver_10 (by decide) rfl ?_
  refine x_aload_n (pc := 12) dX5_goesOver_12 1 rfl rfl ?_
  refine x_iload_n (pc := 13) dX5_goesOver_13 2 rfl rfl ?_
  refine x_iload_n (pc := 14) dX5_goesOver_14 4 rfl rfl ?_
  obtain ⟨Q6, hc7, h⟩ := h
  refine x_callVI (pc := 15) s hc7 ok_X5_between dX5_goesOver_15 tb_304 ⟨⟨rfl, rfl⟩, ⟨by decide, by decide⟩, by decide, by decide⟩ (Sv_K0 hs) (Sv_c0 hs _) rfl (As := [.int a1, .int a3]) rfl rfl (Nat.le_of_ble_eq_true rfl) (fun r8 m9 q10 => ?_)
  have h := h r8 m9 q10
  refine x_iload (pc := 18) dX5_goesOver_18 0 rfl ?_
  refine x_iadd (pc := 20) dX5_goesOver_20 ?_
  refine x_aload_n (pc := 21) dX5_goesOver_21 1 rfl rfl ?_
  refine x_iload (pc := 22) dX5_goesOver_22 5 rfl ?_
  refine x_iload_n (pc := 24) dX5_goesOver_24 3 rfl rfl ?_
  obtain ⟨Q11, hc12, h⟩ := h
  refine x_callVI (pc := 25) s hc12 ok_X5_between dX5_goesOver_25 tb_304 ⟨⟨rfl, rfl⟩, ⟨by decide, by decide⟩, by decide, by decide⟩ (Sv_K0 hs) (Sv_c0 hs _) rfl (As := [.int a4, .int a2]) rfl rfl (Nat.le_of_ble_eq_true rfl) (fun r13 m14 q15 => ?_)
  have h := h r13 m14 q15
  refine x_iadd (pc := 28) dX5_goesOver_28 ?_
  refine x_istore (pc := 29) dX5_goesOver_29 (by decide) rfl ?_
  refine x_aload_n (pc := 31) dX5_goesOver_31 2 rfl rfl ?_
  refine x_iload_n (pc := 32) dX5_goesOver_32 3 rfl rfl ?_
  refine x_iload (pc := 33) dX5_goesOver_33 6 rfl ?_
  obtain ⟨Q16, hc17, h⟩ := h
  refine x_callVI (pc := 35) s hc17 ok_X5_between dX5_goesOver_35 tb_304 ⟨⟨rfl, rfl⟩, ⟨by decide, by decide⟩, by decide, by decide⟩ (Sv_K0 hs) (Sv_c0 hs _) rfl (As := [.int a1, .int a4]) rfl rfl (Nat.le_of_ble_eq_true rfl) (fun r18 m19 q20 => ?_)
  have h := h r18 m19 q20
  refine x_iload (pc := 38) dX5_goesOver_38 1 rfl ?_
  refine x_iadd (pc := 40) dX5_goesOver_40 ?_
  refine x_aload_n (pc := 41) dX5_goesOver_41 2 rfl rfl ?_
  refine x_iload_n (pc := 42) dX5_goesOver_42 5 rfl rfl ?_
  refine x_iload_n (pc := 43) dX5_goesOver_43 4 rfl rfl ?_
  obtain ⟨Q21, hc22, h⟩ := h
  refine x_callVI (pc := 44) s hc22 ok_X5_between dX5_goesOver_44 tb_304 ⟨⟨rfl, rfl⟩, ⟨by decide, by decide⟩, by decide, by decide⟩ (Sv_K0 hs) (Sv_c0 hs _) rfl (As := [.int a3, .int a2]) rfl rfl (Nat.le_of_ble_eq_true rfl) (fun r23 m24 q25 => ?_)
  have h := h r23 m24 q25
  refine x_iadd (pc := 47) dX5_goesOver_47 ?_
  refine x_istore (pc := 48) dX5_goesOver_48 (by decide) rfl ?_
  refine x_iload (pc := 50) dX5_goesOver_50 1 rfl ?_
  refine x_iload (pc := 52) dX5_goesOver_52 0 rfl ?_
  refine x_mmin (pc := 54) dX5_goesOver_54 tb_295 tb_66 tb_33 tb_67 ⟨by decide, Nat.le_of_ble_eq_true rfl, by decide, by decide⟩ ?_
  refine x_aload_n (pc := 57) dX5_goesOver_57 3 rfl rfl ?_
  refine x_iload_n (pc := 58) dX5_goesOver_58 4 rfl rfl ?_
  refine x_iload_n (pc := 59) dX5_goesOver_59 5 rfl rfl ?_
  obtain ⟨Q26, hc27, h⟩ := h
  refine x_callVI (pc := 60) s hc27 ok_X5_between dX5_goesOver_60 tb_304 ⟨⟨rfl, rfl⟩, ⟨by decide, by decide⟩, by decide, by decide⟩ (Sv_K0 hs) (Sv_c0 hs _) rfl (As := [.int a1, .int a2]) rfl rfl (Nat.le_of_ble_eq_true rfl) (fun r28 m29 q30 => ?_)
  have h := h r28 m29 q30
  refine x_icmp_ne (pc := 63) (tgt := 70) dX5_goesOver_63 (by decide) (fun c31 => ?_) (fun c31 => ?_)
  · have h := h.1 c31
    refine x_iconst (pc := 70) (v := 0) dX5_goesOver_70 (by decide) ?_
    exact x_endZ (pc := 71) dX5_goesOver_71 rfl (Or.inl rfl) h
  · have h := h.2 c31
    refine x_iconst (pc := 66) (v := 1) dX5_goesOver_66 (by decide) ?_
    refine x_goto (pc := 67) (tgt := 71) dX5_goesOver_67 (by decide) ?_
    exact x_endZ (pc := 71) dX5_goesOver_71 rfl (Or.inr rfl) h
set_option maxRecDepth 100000 in
set_option maxHeartbeats 4000000 in
theorem t_X5_evenestEdge_0 {l : Launch} {G : Gx} {P : Int32 → Mem → Prop} {s : Nat} (hs : Sv G s) (a1 : Int32) (mem : Mem)
    (h : XI l M_X5_evenestEdge G P mem 9 [(0, .ref (gA G s)), (1, .int a1), (2, .int (-9)), (3, .int 1000000000), (4, .int 0)] []) :
    XI l M_X5_evenestEdge G P mem 0 [(0, .ref (gA G s)), (1, .int a1)] [] := by
  refine x_bipush (pc := 0) (v := (-9)) dX5_evenestEdge_0 (by decide) ?_
  refine x_istore_n (pc := 2) dX5_evenestEdge_2 rfl (by decide) rfl ?_
  refine x_ldc (pc := 3) (v := 1000000000) dX5_evenestEdge_3 tb_413 ?_
  refine x_istore_n (pc := 5) dX5_evenestEdge_5 rfl (by decide) rfl ?_
  refine x_iconst (pc := 6) (v := 0) dX5_evenestEdge_6 (by decide) ?_
  refine x_istore (pc := 7) dX5_evenestEdge_7 (by decide) rfl ?_
  exact x_sub [3, 4, 2, 1, 0] rfl h
set_option maxRecDepth 100000 in
set_option maxHeartbeats 4000000 in
theorem t_X5_evenestEdge_9 {l : Launch} {G : Gx} {P : Int32 → Mem → Prop} {s : Nat} (hs : Sv G s) (a1 : Int32) (a2 : Int32) (a3 : Int32) (a4 : Int32) (mem : Mem)
    (h : ((mem s 1) ≤ a4 → (P a2 mem)) ∧ (¬ (mem s 1) ≤ a4 → (XI l M_X5_evenestEdge G P mem 24 [(0, .ref (gA G s)), (1, .int a1), (2, .int a2), (3, .int a3), (4, .int a4), (5, .int (a4 + 1))] []))) :
    XI l M_X5_evenestEdge G P mem 9 [(0, .ref (gA G s)), (1, .int a1), (2, .int a2), (3, .int a3), (4, .int a4)] [] := by
  refine x_iload (pc := 9) dX5_evenestEdge_9 4 rfl ?_
  refine x_aload_n (pc := 11) dX5_evenestEdge_11 0 rfl rfl ?_
  refine x_get (pc := 12) s 1 dX5_evenestEdge_12 (Sv_K0 hs) (Sv_c0 hs _) rfl inX5 (by decide) tb_93 rfl rfl ?_
  refine x_icmp_ge (pc := 15) (tgt := 99) dX5_evenestEdge_15 (by decide) (fun c1 => ?_) (fun c1 => ?_)
  · have h := h.1 c1
    refine x_iload_n (pc := 99) dX5_evenestEdge_99 2 rfl rfl ?_
    exact x_endI (pc := 100) dX5_evenestEdge_100 rfl h
  · have h := h.2 c1
    refine x_iload (pc := 18) dX5_evenestEdge_18 4 rfl ?_
    refine x_iconst (pc := 20) (v := 1) dX5_evenestEdge_20 (by decide) ?_
    refine x_iadd (pc := 21) dX5_evenestEdge_21 ?_
    refine x_istore (pc := 22) dX5_evenestEdge_22 (by decide) rfl ?_
    exact x_sub [1, 2, 3, 4, 5, 0] rfl h
set_option maxRecDepth 100000 in
set_option maxHeartbeats 4000000 in
theorem t_X5_evenestEdge_24 {l : Launch} {G : Gx} {P : Int32 → Mem → Prop} {s : Nat} (hs : Sv G s) (a1 : Int32) (a2 : Int32) (a3 : Int32) (a4 : Int32) (a5 : Int32) (mem : Mem)
    (h : ((mem s 1) ≤ a5 → (XI l M_X5_evenestEdge G P mem 9 [(0, .ref (gA G s)), (1, .int a1), (2, .int a2), (3, .int a3), (4, .int (a4 + 1))] [])) ∧ (¬ (mem s 1) ≤ a5 → (∃ Q2 : Int32 → Mem → Prop, CtI l M_X1_hasEdge G [.ref (gA G (s - 15)), .int a4, .int a5] mem Q2 ∧ ∀ (r4 : Int32) (m5 : Mem), Q2 r4 m5 → ((r4 = 0 → (XI l M_X5_evenestEdge G P m5 24 [(0, .ref (gA G s)), (1, .int a1), (2, .int a2), (3, .int a3), (4, .int a4), (5, .int (a5 + 1))] [])) ∧ (¬ r4 = 0 → (∃ Q8 : Int32 → Mem → Prop, CtI l M_X5_joined G [.ref (gA G s), .int a4, .int a1] m5 Q8 ∧ ∀ (r10 : Int32) (m11 : Mem), Q8 r10 m11 → ((r10 = 0 → (XI l M_X5_evenestEdge G P m11 24 [(0, .ref (gA G s)), (1, .int a1), (2, .int a2), (3, .int a3), (4, .int a4), (5, .int (a5 + 1))] [])) ∧ (¬ r10 = 0 → (∃ Q14 : Int32 → Mem → Prop, CtI l M_X5_heavierPart G [.ref (gA G s), .int a4, .int a5] m11 Q14 ∧ ∀ (r16 : Int32) (m17 : Mem), Q14 r16 m17 → ((a3 ≤ r16 → (XI l M_X5_evenestEdge G P m17 24 [(0, .ref (gA G s)), (1, .int a1), (2, .int a2), (3, .int a3), (4, .int a4), (5, .int (a5 + 1))] [])) ∧ (¬ a3 ≤ r16 → (∃ Q20 : Int32 → Mem → Prop, CtI l M_X5_heavierPart G [.ref (gA G s), .int a4, .int a5] m17 Q20 ∧ ∀ (r22 : Int32) (m23 : Mem), Q20 r22 m23 → (XI l M_X5_evenestEdge G P m23 24 [(0, .ref (gA G s)), (1, .int a1), (2, .int ((100 * a4) + a5)), (3, .int r22), (4, .int a4), (5, .int (a5 + 1))] []))))))))))))) :
    XI l M_X5_evenestEdge G P mem 24 [(0, .ref (gA G s)), (1, .int a1), (2, .int a2), (3, .int a3), (4, .int a4), (5, .int a5)] [] := by
  refine x_iload (pc := 24) dX5_evenestEdge_24 5 rfl ?_
  refine x_aload_n (pc := 26) dX5_evenestEdge_26 0 rfl rfl ?_
  refine x_get (pc := 27) s 1 dX5_evenestEdge_27 (Sv_K0 hs) (Sv_c0 hs _) rfl inX5 (by decide) tb_93 rfl rfl ?_
  refine x_icmp_ge (pc := 30) (tgt := 93) dX5_evenestEdge_30 (by decide) (fun c1 => ?_) (fun c1 => ?_)
  · have h := h.1 c1
    refine x_iinc (pc := 93) (v := (a4 + 1)) dX5_evenestEdge_93 (k := 4) rfl rfl (by decide) rfl ?_
    refine x_goto (pc := 96) (tgt := 9) dX5_evenestEdge_96 (by decide) ?_
    exact x_sub [1, 2, 3, 4, 0] rfl h
  · have h := h.2 c1
    refine x_aload_n (pc := 33) dX5_evenestEdge_33 0 rfl rfl ?_
    refine x_get (pc := 34) s 0 dX5_evenestEdge_34 (Sv_K0 hs) (Sv_c0 hs _) rfl inX5 (by decide) tb_92 rfl rfl ?_
    refine x_iload (pc := 37) dX5_evenestEdge_37 4 rfl ?_
    refine x_iload (pc := 39) dX5_evenestEdge_39 5 rfl ?_
    obtain ⟨Q2, hc3, h⟩ := h
    refine x_callVI (pc := 41) (s - 15) hc3 ok_X1_hasEdge dX5_evenestEdge_41 tb_373 ⟨⟨rfl, rfl⟩, ⟨by decide, by decide⟩, by decide, by decide⟩ (Fo_K0 (Sv_Fo hs)) (Fo_c0 (Sv_Fo hs) _) rfl (As := [.int a4, .int a5]) rfl rfl (Nat.le_of_ble_eq_true rfl) (fun r4 m5 q6 => ?_)
    have h := h r4 m5 q6
    refine x_if_eq (pc := 44) (tgt := 87) dX5_evenestEdge_44 (by decide) (fun c7 => ?_) (fun c7 => ?_)
    · have h := h.1 c7
      refine x_iinc (pc := 87) (v := (a5 + 1)) dX5_evenestEdge_87 (k := 5) rfl rfl (by decide) rfl ?_
      refine x_goto (pc := 90) (tgt := 24) dX5_evenestEdge_90 (by decide) ?_
      exact x_sub [1, 2, 3, 4, 5, 0] rfl h
    · have h := h.2 c7
      refine x_aload_n (pc := 47) dX5_evenestEdge_47 0 rfl rfl ?_
      refine x_iload (pc := 48) dX5_evenestEdge_48 4 rfl ?_
      refine x_iload_n (pc := 50) dX5_evenestEdge_50 1 rfl rfl ?_
      obtain ⟨Q8, hc9, h⟩ := h
      refine x_callVI (pc := 51) s hc9 ok_X5_joined dX5_evenestEdge_51 tb_300 ⟨⟨rfl, rfl⟩, ⟨by decide, by decide⟩, by decide, by decide⟩ (Sv_K0 hs) (Sv_c0 hs _) rfl (As := [.int a4, .int a1]) rfl rfl (Nat.le_of_ble_eq_true rfl) (fun r10 m11 q12 => ?_)
      have h := h r10 m11 q12
      refine x_if_eq (pc := 54) (tgt := 87) dX5_evenestEdge_54 (by decide) (fun c13 => ?_) (fun c13 => ?_)
      · have h := h.1 c13
        refine x_iinc (pc := 87) (v := (a5 + 1)) dX5_evenestEdge_87 (k := 5) rfl rfl (by decide) rfl ?_
        refine x_goto (pc := 90) (tgt := 24) dX5_evenestEdge_90 (by decide) ?_
        exact x_sub [1, 2, 3, 4, 5, 0] rfl h
      · have h := h.2 c13
        refine x_aload_n (pc := 57) dX5_evenestEdge_57 0 rfl rfl ?_
        refine x_iload (pc := 58) dX5_evenestEdge_58 4 rfl ?_
        refine x_iload (pc := 60) dX5_evenestEdge_60 5 rfl ?_
        obtain ⟨Q14, hc15, h⟩ := h
        refine x_callVI (pc := 62) s hc15 ok_X5_heavierPart dX5_evenestEdge_62 tb_531 ⟨⟨rfl, rfl⟩, ⟨by decide, by decide⟩, by decide, by decide⟩ (Sv_K0 hs) (Sv_c0 hs _) rfl (As := [.int a4, .int a5]) rfl rfl (Nat.le_of_ble_eq_true rfl) (fun r16 m17 q18 => ?_)
        have h := h r16 m17 q18
        refine x_iload_n (pc := 65) dX5_evenestEdge_65 3 rfl rfl ?_
        refine x_icmp_ge (pc := 66) (tgt := 87) dX5_evenestEdge_66 (by decide) (fun c19 => ?_) (fun c19 => ?_)
        · have h := h.1 c19
          refine x_iinc (pc := 87) (v := (a5 + 1)) dX5_evenestEdge_87 (k := 5) rfl rfl (by decide) rfl ?_
          refine x_goto (pc := 90) (tgt := 24) dX5_evenestEdge_90 (by decide) ?_
          exact x_sub [1, 2, 3, 4, 5, 0] rfl h
        · have h := h.2 c19
          refine x_bipush (pc := 69) (v := 100) dX5_evenestEdge_69 (by decide) ?_
          refine x_iload (pc := 71) dX5_evenestEdge_71 4 rfl ?_
          refine x_imul (pc := 73) dX5_evenestEdge_73 ?_
          refine x_iload (pc := 74) dX5_evenestEdge_74 5 rfl ?_
          refine x_iadd (pc := 76) dX5_evenestEdge_76 ?_
          refine x_istore_n (pc := 77) dX5_evenestEdge_77 rfl (by decide) rfl ?_
          refine x_aload_n (pc := 78) dX5_evenestEdge_78 1 rfl rfl ?_
          refine x_iload (pc := 79) dX5_evenestEdge_79 4 rfl ?_
          refine x_iload (pc := 81) dX5_evenestEdge_81 5 rfl ?_
          obtain ⟨Q20, hc21, h⟩ := h
          refine x_callVI (pc := 83) s hc21 ok_X5_heavierPart dX5_evenestEdge_83 tb_531 ⟨⟨rfl, rfl⟩, ⟨by decide, by decide⟩, by decide, by decide⟩ (Sv_K0 hs) (Sv_c0 hs _) rfl (As := [.int a4, .int a5]) rfl rfl (Nat.le_of_ble_eq_true rfl) (fun r22 m23 q24 => ?_)
          have h := h r22 m23 q24
          refine x_istore_n (pc := 86) dX5_evenestEdge_86 rfl (by decide) rfl ?_
          refine x_iinc (pc := 87) (v := (a5 + 1)) dX5_evenestEdge_87 (k := 5) rfl rfl (by decide) rfl ?_
          refine x_goto (pc := 90) (tgt := 24) dX5_evenestEdge_90 (by decide) ?_
          exact x_sub [3, 4, 2, 1, 5, 0] rfl h
set_option maxRecDepth 100000 in
set_option maxHeartbeats 4000000 in
theorem t_X5_heavierPart_0 {l : Launch} {G : Gx} {P : Int32 → Mem → Prop} {s : Nat} (hs : Sv G s) (a1 : Int32) (a2 : Int32) (mem : Mem)
    (h : XI l M_X5_heavierPart G P mem 8 [(0, .ref (gA G s)), (1, .int a1), (2, .int a2), (3, .int 0), (4, .int 0), (5, .int 0)] []) :
    XI l M_X5_heavierPart G P mem 0 [(0, .ref (gA G s)), (1, .int a1), (2, .int a2)] [] := by
  refine x_iconst (pc := 0) (v := 0) dX5_heavierPart_0 (by decide) ?_
  refine x_istore_n (pc := 1) dX5_heavierPart_1 rfl (by decide) rfl ?_
  refine x_iconst (pc := 2) (v := 0) dX5_heavierPart_2 (by decide) ?_
  refine x_istore (pc := 3) dX5_heavierPart_3 (by decide) rfl ?_
  refine x_iconst (pc := 5) (v := 0) dX5_heavierPart_5 (by decide) ?_
  refine x_istore (pc := 6) dX5_heavierPart_6 (by decide) rfl ?_
  exact x_sub [3, 4, 5, 2, 1, 0] rfl h
set_option maxRecDepth 100000 in
set_option maxHeartbeats 4000000 in
theorem t_X5_heavierPart_8 {l : Launch} {G : Gx} {P : Int32 → Mem → Prop} {s : Nat} (hs : Sv G s) (a1 : Int32) (a2 : Int32) (a3 : Int32) (a4 : Int32) (a5 : Int32) (mem : Mem)
    (h : ((mem s 1) ≤ a5 → (P (if a3 < a4 then a4 else a3) mem)) ∧ (¬ (mem s 1) ≤ a5 → (∃ Q2 : Int32 → Mem → Prop, CtI l M_X5_joined G [.ref (gA G s), .int a5, .int a1] mem Q2 ∧ ∀ (r4 : Int32) (m5 : Mem), Q2 r4 m5 → ((r4 = 0 → (∃ Q8 : Int32 → Mem → Prop, CtI l M_X5_joined G [.ref (gA G s), .int a5, .int a1] m5 Q8 ∧ ∀ (r10 : Int32) (m11 : Mem), Q8 r10 m11 → ((r10 = 0 → (XI l M_X5_heavierPart G P m11 8 [(0, .ref (gA G s)), (1, .int a1), (2, .int a2), (3, .int a3), (4, .int a4), (5, .int (a5 + 1))] [])) ∧ (¬ r10 = 0 → (∃ Q14 : Int32 → Mem → Prop, CtI l M_X1_weightOf G [.ref (gA G (s - 15)), .int a5] m11 Q14 ∧ ∀ (r16 : Int32) (m17 : Mem), Q14 r16 m17 → (XI l M_X5_heavierPart G P m17 8 [(0, .ref (gA G s)), (1, .int a1), (2, .int a2), (3, .int a3), (4, .int (a4 + r16)), (5, .int (a5 + 1))] [])))))) ∧ (¬ r4 = 0 → (∃ Q19 : Int32 → Mem → Prop, CtI l M_X5_between G [.ref (gA G s), .int a5, .int a1] m5 Q19 ∧ ∀ (r21 : Int32) (m22 : Mem), Q19 r21 m22 → (∃ Q24 : Int32 → Mem → Prop, CtI l M_X5_between G [.ref (gA G s), .int a5, .int a2] m22 Q24 ∧ ∀ (r26 : Int32) (m27 : Mem), Q24 r26 m27 → ((r26 ≤ r21 → (∃ Q30 : Int32 → Mem → Prop, CtI l M_X5_joined G [.ref (gA G s), .int a5, .int a1] m27 Q30 ∧ ∀ (r32 : Int32) (m33 : Mem), Q30 r32 m33 → ((r32 = 0 → (XI l M_X5_heavierPart G P m33 8 [(0, .ref (gA G s)), (1, .int a1), (2, .int a2), (3, .int a3), (4, .int a4), (5, .int (a5 + 1))] [])) ∧ (¬ r32 = 0 → (∃ Q36 : Int32 → Mem → Prop, CtI l M_X1_weightOf G [.ref (gA G (s - 15)), .int a5] m33 Q36 ∧ ∀ (r38 : Int32) (m39 : Mem), Q36 r38 m39 → (XI l M_X5_heavierPart G P m39 8 [(0, .ref (gA G s)), (1, .int a1), (2, .int a2), (3, .int a3), (4, .int (a4 + r38)), (5, .int (a5 + 1))] [])))))) ∧ (¬ r26 ≤ r21 → (∃ Q41 : Int32 → Mem → Prop, CtI l M_X1_weightOf G [.ref (gA G (s - 15)), .int a5] m27 Q41 ∧ ∀ (r43 : Int32) (m44 : Mem), Q41 r43 m44 → (XI l M_X5_heavierPart G P m44 8 [(0, .ref (gA G s)), (1, .int a1), (2, .int a2), (3, .int (a3 + r43)), (4, .int a4), (5, .int (a5 + 1))] []))))))))))) :
    XI l M_X5_heavierPart G P mem 8 [(0, .ref (gA G s)), (1, .int a1), (2, .int a2), (3, .int a3), (4, .int a4), (5, .int a5)] [] := by
  refine x_iload (pc := 8) dX5_heavierPart_8 5 rfl ?_
  refine x_aload_n (pc := 10) dX5_heavierPart_10 0 rfl rfl ?_
  refine x_get (pc := 11) s 1 dX5_heavierPart_11 (Sv_K0 hs) (Sv_c0 hs _) rfl inX5 (by decide) tb_93 rfl rfl ?_
  refine x_icmp_ge (pc := 14) (tgt := 89) dX5_heavierPart_14 (by decide) (fun c1 => ?_) (fun c1 => ?_)
  · have h := h.1 c1
    refine x_iload_n (pc := 89) dX5_heavierPart_89 3 rfl rfl ?_
    refine x_iload (pc := 90) dX5_heavierPart_90 4 rfl ?_
    refine x_mmax (pc := 92) dX5_heavierPart_92 tb_535 tb_69 tb_33 tb_70 ⟨by decide, Nat.le_of_ble_eq_true rfl, by decide, by decide⟩ ?_
    exact x_endI (pc := 95) dX5_heavierPart_95 rfl h
  · have h := h.2 c1
    refine x_aload_n (pc := 17) dX5_heavierPart_17 0 rfl rfl ?_
    refine x_iload (pc := 18) dX5_heavierPart_18 5 rfl ?_
    refine x_iload_n (pc := 20) dX5_heavierPart_20 1 rfl rfl ?_
    obtain ⟨Q2, hc3, h⟩ := h
    refine x_callVI (pc := 21) s hc3 ok_X5_joined dX5_heavierPart_21 tb_300 ⟨⟨rfl, rfl⟩, ⟨by decide, by decide⟩, by decide, by decide⟩ (Sv_K0 hs) (Sv_c0 hs _) rfl (As := [.int a5, .int a1]) rfl rfl (Nat.le_of_ble_eq_true rfl) (fun r4 m5 q6 => ?_)
    have h := h r4 m5 q6
    refine x_if_eq (pc := 24) (tgt := 59) dX5_heavierPart_24 (by decide) (fun c7 => ?_) (fun c7 => ?_)
    · have h := h.1 c7
      refine x_aload_n (pc := 59) dX5_heavierPart_59 0 rfl rfl ?_
      refine x_iload (pc := 60) dX5_heavierPart_60 5 rfl ?_
      refine x_iload_n (pc := 62) dX5_heavierPart_62 1 rfl rfl ?_
      obtain ⟨Q8, hc9, h⟩ := h
      refine x_callVI (pc := 63) s hc9 ok_X5_joined dX5_heavierPart_63 tb_300 ⟨⟨rfl, rfl⟩, ⟨by decide, by decide⟩, by decide, by decide⟩ (Sv_K0 hs) (Sv_c0 hs _) rfl (As := [.int a5, .int a1]) rfl rfl (Nat.le_of_ble_eq_true rfl) (fun r10 m11 q12 => ?_)
      have h := h r10 m11 q12
      refine x_if_eq (pc := 66) (tgt := 83) dX5_heavierPart_66 (by decide) (fun c13 => ?_) (fun c13 => ?_)
      · have h := h.1 c13
        refine x_iinc (pc := 83) (v := (a5 + 1)) dX5_heavierPart_83 (k := 5) rfl rfl (by decide) rfl ?_
        refine x_goto (pc := 86) (tgt := 8) dX5_heavierPart_86 (by decide) ?_
        exact x_sub [1, 2, 3, 4, 5, 0] rfl h
      · have h := h.2 c13
        refine x_iload (pc := 69) dX5_heavierPart_69 4 rfl ?_
        refine x_aload_n (pc := 71) dX5_heavierPart_71 0 rfl rfl ?_
        refine x_get (pc := 72) s 0 dX5_heavierPart_72 (Sv_K0 hs) (Sv_c0 hs _) rfl inX5 (by decide) tb_92 rfl rfl ?_
        refine x_iload (pc := 75) dX5_heavierPart_75 5 rfl ?_
        obtain ⟨Q14, hc15, h⟩ := h
        refine x_callVI (pc := 77) (s - 15) hc15 ok_X1_weightOf dX5_heavierPart_77 tb_426 ⟨⟨rfl, rfl⟩, ⟨by decide, by decide⟩, by decide, by decide⟩ (Fo_K0 (Sv_Fo hs)) (Fo_c0 (Sv_Fo hs) _) rfl (As := [.int a5]) rfl rfl (Nat.le_of_ble_eq_true rfl) (fun r16 m17 q18 => ?_)
        have h := h r16 m17 q18
        refine x_iadd (pc := 80) dX5_heavierPart_80 ?_
        refine x_istore (pc := 81) dX5_heavierPart_81 (by decide) rfl ?_
        refine x_iinc (pc := 83) (v := (a5 + 1)) dX5_heavierPart_83 (k := 5) rfl rfl (by decide) rfl ?_
        refine x_goto (pc := 86) (tgt := 8) dX5_heavierPart_86 (by decide) ?_
        exact x_sub [2, 3, 4, 5, 1, 0] rfl h
    · have h := h.2 c7
      refine x_aload_n (pc := 27) dX5_heavierPart_27 0 rfl rfl ?_
      refine x_iload (pc := 28) dX5_heavierPart_28 5 rfl ?_
      refine x_iload_n (pc := 30) dX5_heavierPart_30 1 rfl rfl ?_
      obtain ⟨Q19, hc20, h⟩ := h
      refine x_callVI (pc := 31) s hc20 ok_X5_between dX5_heavierPart_31 tb_304 ⟨⟨rfl, rfl⟩, ⟨by decide, by decide⟩, by decide, by decide⟩ (Sv_K0 hs) (Sv_c0 hs _) rfl (As := [.int a5, .int a1]) rfl rfl (Nat.le_of_ble_eq_true rfl) (fun r21 m22 q23 => ?_)
      have h := h r21 m22 q23
      refine x_aload_n (pc := 34) dX5_heavierPart_34 0 rfl rfl ?_
      refine x_iload (pc := 35) dX5_heavierPart_35 5 rfl ?_
      refine x_iload_n (pc := 37) dX5_heavierPart_37 2 rfl rfl ?_
      obtain ⟨Q24, hc25, h⟩ := h
      refine x_callVI (pc := 38) s hc25 ok_X5_between dX5_heavierPart_38 tb_304 ⟨⟨rfl, rfl⟩, ⟨by decide, by decide⟩, by decide, by decide⟩ (Sv_K0 hs) (Sv_c0 hs _) rfl (As := [.int a5, .int a2]) rfl rfl (Nat.le_of_ble_eq_true rfl) (fun r26 m27 q28 => ?_)
      have h := h r26 m27 q28
      refine x_icmp_ge (pc := 41) (tgt := 59) dX5_heavierPart_41 (by decide) (fun c29 => ?_) (fun c29 => ?_)
      · have h := h.1 c29
        refine x_aload_n (pc := 59) dX5_heavierPart_59 0 rfl rfl ?_
        refine x_iload (pc := 60) dX5_heavierPart_60 5 rfl ?_
        refine x_iload_n (pc := 62) dX5_heavierPart_62 1 rfl rfl ?_
        obtain ⟨Q30, hc31, h⟩ := h
        refine x_callVI (pc := 63) s hc31 ok_X5_joined dX5_heavierPart_63 tb_300 ⟨⟨rfl, rfl⟩, ⟨by decide, by decide⟩, by decide, by decide⟩ (Sv_K0 hs) (Sv_c0 hs _) rfl (As := [.int a5, .int a1]) rfl rfl (Nat.le_of_ble_eq_true rfl) (fun r32 m33 q34 => ?_)
        have h := h r32 m33 q34
        refine x_if_eq (pc := 66) (tgt := 83) dX5_heavierPart_66 (by decide) (fun c35 => ?_) (fun c35 => ?_)
        · have h := h.1 c35
          refine x_iinc (pc := 83) (v := (a5 + 1)) dX5_heavierPart_83 (k := 5) rfl rfl (by decide) rfl ?_
          refine x_goto (pc := 86) (tgt := 8) dX5_heavierPart_86 (by decide) ?_
          exact x_sub [1, 2, 3, 4, 5, 0] rfl h
        · have h := h.2 c35
          refine x_iload (pc := 69) dX5_heavierPart_69 4 rfl ?_
          refine x_aload_n (pc := 71) dX5_heavierPart_71 0 rfl rfl ?_
          refine x_get (pc := 72) s 0 dX5_heavierPart_72 (Sv_K0 hs) (Sv_c0 hs _) rfl inX5 (by decide) tb_92 rfl rfl ?_
          refine x_iload (pc := 75) dX5_heavierPart_75 5 rfl ?_
          obtain ⟨Q36, hc37, h⟩ := h
          refine x_callVI (pc := 77) (s - 15) hc37 ok_X1_weightOf dX5_heavierPart_77 tb_426 ⟨⟨rfl, rfl⟩, ⟨by decide, by decide⟩, by decide, by decide⟩ (Fo_K0 (Sv_Fo hs)) (Fo_c0 (Sv_Fo hs) _) rfl (As := [.int a5]) rfl rfl (Nat.le_of_ble_eq_true rfl) (fun r38 m39 q40 => ?_)
          have h := h r38 m39 q40
          refine x_iadd (pc := 80) dX5_heavierPart_80 ?_
          refine x_istore (pc := 81) dX5_heavierPart_81 (by decide) rfl ?_
          refine x_iinc (pc := 83) (v := (a5 + 1)) dX5_heavierPart_83 (k := 5) rfl rfl (by decide) rfl ?_
          refine x_goto (pc := 86) (tgt := 8) dX5_heavierPart_86 (by decide) ?_
          exact x_sub [2, 3, 4, 5, 1, 0] rfl h
      · have h := h.2 c29
        refine x_iload_n (pc := 44) dX5_heavierPart_44 3 rfl rfl ?_
        refine x_aload_n (pc := 45) dX5_heavierPart_45 0 rfl rfl ?_
        refine x_get (pc := 46) s 0 dX5_heavierPart_46 (Sv_K0 hs) (Sv_c0 hs _) rfl inX5 (by decide) tb_92 rfl rfl ?_
        refine x_iload (pc := 49) dX5_heavierPart_49 5 rfl ?_
        obtain ⟨Q41, hc42, h⟩ := h
        refine x_callVI (pc := 51) (s - 15) hc42 ok_X1_weightOf dX5_heavierPart_51 tb_426 ⟨⟨rfl, rfl⟩, ⟨by decide, by decide⟩, by decide, by decide⟩ (Fo_K0 (Sv_Fo hs)) (Fo_c0 (Sv_Fo hs) _) rfl (As := [.int a5]) rfl rfl (Nat.le_of_ble_eq_true rfl) (fun r43 m44 q45 => ?_)
        have h := h r43 m44 q45
        refine x_iadd (pc := 54) dX5_heavierPart_54 ?_
        refine x_istore_n (pc := 55) dX5_heavierPart_55 rfl (by decide) rfl ?_
        refine x_goto (pc := 56) (tgt := 83) dX5_heavierPart_56 (by decide) ?_
        refine x_iinc (pc := 83) (v := (a5 + 1)) dX5_heavierPart_83 (k := 5) rfl rfl (by decide) rfl ?_
        refine x_goto (pc := 86) (tgt := 8) dX5_heavierPart_86 (by decide) ?_
        exact x_sub [2, 3, 4, 1, 5, 0] rfl h
set_option maxRecDepth 100000 in
set_option maxHeartbeats 4000000 in
theorem t_X5_reachOf_0 {l : Launch} {G : Gx} {P : Int64 → Mem → Prop} {s : Nat} (hs : Sv G s) (a1 : Int32) (a2 : Int32) (mem : Mem)
    (h : XL l M_X5_reachOf G P mem 5 [(0, .ref (gA G s)), (1, .int a1), (2, .int a2), (3, .long 0), (5, .int 0)] []) :
    XL l M_X5_reachOf G P mem 0 [(0, .ref (gA G s)), (1, .int a1), (2, .int a2)] [] := by
  refine x_lconst (pc := 0) (v := 0) dX5_reachOf_0 rfl ?_
  refine x_lstore_n (pc := 1) dX5_reachOf_1 rfl (by decide) rfl ?_
  refine x_iconst (pc := 2) (v := 0) dX5_reachOf_2 (by decide) ?_
  refine x_istore (pc := 3) dX5_reachOf_3 (by decide) rfl ?_
  exact x_sub [2, 3, 4, 1, 0] rfl h
set_option maxRecDepth 100000 in
set_option maxHeartbeats 4000000 in
theorem t_X5_reachOf_5 {l : Launch} {G : Gx} {P : Int64 → Mem → Prop} {s : Nat} (hs : Sv G s) (a1 : Int32) (a2 : Int32) (a3 : Int64) (a5 : Int32) (mem : Mem)
    (h : ((mem s 1) ≤ a5 → (P a3 mem)) ∧ (¬ (mem s 1) ≤ a5 → (∃ Q2 : Int32 → Mem → Prop, CtI l M_X5_joined G [.ref (gA G s), .int a5, .int a1] mem Q2 ∧ ∀ (r4 : Int32) (m5 : Mem), Q2 r4 m5 → ((r4 = 0 → (XL l M_X5_reachOf G P m5 5 [(0, .ref (gA G s)), (1, .int a1), (2, .int a2), (3, .long a3), (5, .int (a5 + 1))] [])) ∧ (¬ r4 = 0 → (∃ Q8 : Int32 → Mem → Prop, CtI l M_X1_weightOf G [.ref (gA G (s - 15)), .int a5] m5 Q8 ∧ ∀ (r10 : Int32) (m11 : Mem), Q8 r10 m11 → (∃ Q13 : Int64 → Mem → Prop, CtL l M_X5_chanceOfPath G [.ref (gA G s), .int a5, .int a1, .int a2] m11 Q13 ∧ ∀ (r15 : Int64) (m16 : Mem), Q13 r15 m16 → (XL l M_X5_reachOf G P m16 5 [(0, .ref (gA G s)), (1, .int a1), (2, .int a2), (3, .long (a3 + (((r10 : Int32).toInt64) * r15))), (5, .int (a5 + 1))] [])))))))) :
    XL l M_X5_reachOf G P mem 5 [(0, .ref (gA G s)), (1, .int a1), (2, .int a2), (3, .long a3), (5, .int a5)] [] := by
  refine x_iload (pc := 5) dX5_reachOf_5 4 rfl ?_
  refine x_aload_n (pc := 7) dX5_reachOf_7 0 rfl rfl ?_
  refine x_get (pc := 8) s 1 dX5_reachOf_8 (Sv_K0 hs) (Sv_c0 hs _) rfl inX5 (by decide) tb_93 rfl rfl ?_
  refine x_icmp_ge (pc := 11) (tgt := 52) dX5_reachOf_11 (by decide) (fun c1 => ?_) (fun c1 => ?_)
  · have h := h.1 c1
    refine x_lload_n (pc := 52) dX5_reachOf_52 3 rfl rfl ?_
    exact x_endL (pc := 53) dX5_reachOf_53 rfl h
  · have h := h.2 c1
    refine x_aload_n (pc := 14) dX5_reachOf_14 0 rfl rfl ?_
    refine x_iload (pc := 15) dX5_reachOf_15 4 rfl ?_
    refine x_iload_n (pc := 17) dX5_reachOf_17 1 rfl rfl ?_
    obtain ⟨Q2, hc3, h⟩ := h
    refine x_callVI (pc := 18) s hc3 ok_X5_joined dX5_reachOf_18 tb_300 ⟨⟨rfl, rfl⟩, ⟨by decide, by decide⟩, by decide, by decide⟩ (Sv_K0 hs) (Sv_c0 hs _) rfl (As := [.int a5, .int a1]) rfl rfl (Nat.le_of_ble_eq_true rfl) (fun r4 m5 q6 => ?_)
    have h := h r4 m5 q6
    refine x_if_eq (pc := 21) (tgt := 46) dX5_reachOf_21 (by decide) (fun c7 => ?_) (fun c7 => ?_)
    · have h := h.1 c7
      refine x_iinc (pc := 46) (v := (a5 + 1)) dX5_reachOf_46 (k := 4) rfl rfl (by decide) rfl ?_
      refine x_goto (pc := 49) (tgt := 5) dX5_reachOf_49 (by decide) ?_
      exact x_sub [1, 2, 3, 4, 0] rfl h
    · have h := h.2 c7
      refine x_lload_n (pc := 24) dX5_reachOf_24 3 rfl rfl ?_
      refine x_aload_n (pc := 25) dX5_reachOf_25 0 rfl rfl ?_
      refine x_get (pc := 26) s 0 dX5_reachOf_26 (Sv_K0 hs) (Sv_c0 hs _) rfl inX5 (by decide) tb_92 rfl rfl ?_
      refine x_iload (pc := 29) dX5_reachOf_29 4 rfl ?_
      obtain ⟨Q8, hc9, h⟩ := h
      refine x_callVI (pc := 31) (s - 15) hc9 ok_X1_weightOf dX5_reachOf_31 tb_426 ⟨⟨rfl, rfl⟩, ⟨by decide, by decide⟩, by decide, by decide⟩ (Fo_K0 (Sv_Fo hs)) (Fo_c0 (Sv_Fo hs) _) rfl (As := [.int a5]) rfl rfl (Nat.le_of_ble_eq_true rfl) (fun r10 m11 q12 => ?_)
      have h := h r10 m11 q12
      refine x_i2l (pc := 34) dX5_reachOf_34 ?_
      refine x_aload_n (pc := 35) dX5_reachOf_35 0 rfl rfl ?_
      refine x_iload (pc := 36) dX5_reachOf_36 4 rfl ?_
      refine x_iload_n (pc := 38) dX5_reachOf_38 1 rfl rfl ?_
      refine x_iload_n (pc := 39) dX5_reachOf_39 2 rfl rfl ?_
      obtain ⟨Q13, hc14, h⟩ := h
      refine x_callVL (pc := 40) s hc14 ok_X5_chanceOfPath dX5_reachOf_40 tb_546 ⟨⟨rfl, rfl⟩, ⟨by decide, by decide⟩, by decide, by decide⟩ (Sv_K0 hs) (Sv_c0 hs _) rfl (As := [.int a5, .int a1, .int a2]) rfl rfl (Nat.le_of_ble_eq_true rfl) (fun r15 m16 q17 => ?_)
      have h := h r15 m16 q17
      refine x_lmul (pc := 43) dX5_reachOf_43 ?_
      refine x_ladd (pc := 44) dX5_reachOf_44 ?_
      refine x_lstore_n (pc := 45) dX5_reachOf_45 rfl (by decide) rfl ?_
      refine x_iinc (pc := 46) (v := (a5 + 1)) dX5_reachOf_46 (k := 4) rfl rfl (by decide) rfl ?_
      refine x_goto (pc := 49) (tgt := 5) dX5_reachOf_49 (by decide) ?_
      exact x_sub [2, 3, 4, 1, 0] rfl h
set_option maxRecDepth 100000 in
set_option maxHeartbeats 4000000 in
theorem t_X5_chanceOfPath_0 {l : Launch} {G : Gx} {P : Int64 → Mem → Prop} {s : Nat} (hs : Sv G s) (a1 : Int32) (a2 : Int32) (a3 : Int32) (mem : Mem)
    (h : XL l M_X5_chanceOfPath G P mem 11 [(0, .ref (gA G s)), (2, .int a2), (3, .int a3), (4, .long 100000000000), (6, .int a1), (7, .int 0)] []) :
    XL l M_X5_chanceOfPath G P mem 0 [(0, .ref (gA G s)), (1, .int a1), (2, .int a2), (3, .int a3)] [] := by
  refine x_ldc2 (pc := 0) (v := 100000000000) dX5_chanceOfPath_0 tb_550 ?_
  refine x_lstore (pc := 3) dX5_chanceOfPath_3 (by decide) rfl ?_
  refine x_iload_n (pc := 5) dX5_chanceOfPath_5 2 rfl rfl ?_
  refine x_istore (pc := 6) dX5_chanceOfPath_6 (by decide) rfl ?_
  refine x_iconst (pc := 8) (v := 0) dX5_chanceOfPath_8 (by decide) ?_
  refine x_istore (pc := 9) dX5_chanceOfPath_9 (by decide) rfl ?_
  exact x_sub [3, 5, 6, 2, 1, 0] rfl h
set_option maxRecDepth 100000 in
set_option maxHeartbeats 4000000 in
theorem t_X5_chanceOfPath_11 {l : Launch} {G : Gx} {P : Int64 → Mem → Prop} {s : Nat} (hs : Sv G s) (a2 : Int32) (a3 : Int32) (a4 : Int64) (a6 : Int32) (a7 : Int32) (mem : Mem)
    (h : (12 ≤ a7 → (P a4 mem)) ∧ (¬ 12 ≤ a7 → ((a6 = a2 → (P a4 mem)) ∧ (¬ a6 = a2 → (∃ Q3 : Int32 → Mem → Prop, CtI l M_X5_stepToward G [.ref (gA G s), .int a6, .int a2] mem Q3 ∧ ∀ (r5 : Int32) (m6 : Mem), Q3 r5 m6 → (XL l M_X5_chanceOfPath G P m6 11 [(0, .ref (gA G s)), (2, .int a2), (3, .int a3), (4, .long ((a4 / 10) * ((a3 : Int32).toInt64))), (6, .int r5), (7, .int (a7 + 1))] [])))))) :
    XL l M_X5_chanceOfPath G P mem 11 [(0, .ref (gA G s)), (2, .int a2), (3, .int a3), (4, .long a4), (6, .int a6), (7, .int a7)] [] := by
  refine x_iload (pc := 11) dX5_chanceOfPath_11 5 rfl ?_
  refine x_bipush (pc := 13) (v := 12) dX5_chanceOfPath_13 (by decide) ?_
  refine x_icmp_ge (pc := 15) (tgt := 50) dX5_chanceOfPath_15 (by decide) (fun c1 => ?_) (fun c1 => ?_)
  · have h := h.1 c1
    refine x_lload (pc := 50) dX5_chanceOfPath_50 3 rfl ?_
    exact x_endL (pc := 52) dX5_chanceOfPath_52 rfl h
  · have h := h.2 c1
    refine x_iload (pc := 18) dX5_chanceOfPath_18 4 rfl ?_
    refine x_iload_n (pc := 20) dX5_chanceOfPath_20 1 rfl rfl ?_
    refine x_icmp_eq (pc := 21) (tgt := 50) dX5_chanceOfPath_21 (by decide) (fun c2 => ?_) (fun c2 => ?_)
    · have h := h.1 c2
      refine x_lload (pc := 50) dX5_chanceOfPath_50 3 rfl ?_
      exact x_endL (pc := 52) dX5_chanceOfPath_52 rfl h
    · have h := h.2 c2
      refine x_lload (pc := 24) dX5_chanceOfPath_24 3 rfl ?_
      refine x_ldc2 (pc := 26) (v := 10) dX5_chanceOfPath_26 tb_551 ?_
      refine x_ldiv (pc := 29) dX5_chanceOfPath_29 (by decide) ?_
      refine x_iload_n (pc := 30) dX5_chanceOfPath_30 2 rfl rfl ?_
      refine x_i2l (pc := 31) dX5_chanceOfPath_31 ?_
      refine x_lmul (pc := 32) dX5_chanceOfPath_32 ?_
      refine x_lstore (pc := 33) dX5_chanceOfPath_33 (by decide) rfl ?_
      refine x_aload_n (pc := 35) dX5_chanceOfPath_35 1 rfl rfl ?_
      refine x_iload (pc := 36) dX5_chanceOfPath_36 4 rfl ?_
      refine x_iload_n (pc := 38) dX5_chanceOfPath_38 2 rfl rfl ?_
      obtain ⟨Q3, hc4, h⟩ := h
      refine x_callVI (pc := 39) s hc4 ok_X5_stepToward dX5_chanceOfPath_39 tb_369 ⟨⟨rfl, rfl⟩, ⟨by decide, by decide⟩, by decide, by decide⟩ (Sv_K0 hs) (Sv_c0 hs _) rfl (As := [.int a6, .int a2]) rfl rfl (Nat.le_of_ble_eq_true rfl) (fun r5 m6 q7 => ?_)
      have h := h r5 m6 q7
      refine x_istore (pc := 42) dX5_chanceOfPath_42 (by decide) rfl ?_
      refine x_iinc (pc := 44) (v := (a7 + 1)) dX5_chanceOfPath_44 (k := 5) rfl rfl (by decide) rfl ?_
      refine x_goto (pc := 47) (tgt := 11) dX5_chanceOfPath_47 (by decide) ?_
      exact x_sub [3, 4, 5, 2, 1, 0] rfl h
