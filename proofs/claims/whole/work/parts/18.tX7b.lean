set_option maxRecDepth 100000 in
set_option maxHeartbeats 4000000 in
theorem t_X7_pathVertex_0 {l : Launch} {G : Gx} {P : Int32 → Mem → Prop} (hG : Mn G) (a1 : Int32) (a2 : Int32) (a3 : Int32) (mem : Mem)
    (h : ∃ Q1 : Int32 → Mem → Prop, CtI l M_X7_isVertex G [.ref (gA G 327), .int a1] mem Q1 ∧ ∀ (r3 : Int32) (m4 : Mem), Q1 r3 m4 → ((r3 = 0 → (P (-1) m4)) ∧ (¬ r3 = 0 → (∃ Q7 : Int32 → Mem → Prop, CtI l M_X7_isVertex G [.ref (gA G 327), .int a2] m4 Q7 ∧ ∀ (r9 : Int32) (m10 : Mem), Q7 r9 m10 → ((¬ r9 = 0 → ((0 ≤ a3 → (∃ Q14 : Mem → Prop, CtV l M_X7_layFar G [.ref (gA G 327), .ref (gA G 329), .int a2] m10 Q14 ∧ ∀ m17 : Mem, Q14 m17 → (vp_in a1 12 ∧ (((m17 336 a1.toNatClampNeg) = (-9) → (P (-9) m17)) ∧ (¬ (m17 336 a1.toNatClampNeg) = (-9) → (vp_in a1 12 ∧ ((a3 ≤ (m17 337 a1.toNatClampNeg) → (XI l M_X7_pathVertex G P m17 64 [(0, .ref (gA G 327)), (3, .int a3), (4, .int a1), (5, .int 0)] [])) ∧ (¬ a3 ≤ (m17 337 a1.toNatClampNeg) → (P (-9) m17))))))))) ∧ (¬ 0 ≤ a3 → (P (-2) m10)))) ∧ (r9 = 0 → (P (-1) m10))))))) :
    XI l M_X7_pathVertex G P mem 0 [(0, .ref (gA G 327)), (1, .int a1), (2, .int a2), (3, .int a3)] [] := by
  refine x_aload_n (pc := 0) dX7_pathVertex_0 0 rfl rfl ?_
  refine x_iload_n (pc := 1) dX7_pathVertex_1 1 rfl rfl ?_
  obtain ⟨Q1, hc2, h⟩ := h
  refine x_callVI (pc := 2) 327 hc2 ok_X7_isVertex dX7_pathVertex_2 tb_848 ⟨⟨rfl, rfl⟩, ⟨by decide, by decide⟩, by decide, by decide⟩ (mK hG (by decide)) (mc_327 hG _) rfl (As := [.int a1]) rfl rfl (Nat.le_of_ble_eq_true rfl) (fun r3 m4 q5 => ?_)
  have h := h r3 m4 q5
  refine x_if_eq (pc := 5) (tgt := 16) dX7_pathVertex_5 (by decide) (fun c6 => ?_) (fun c6 => ?_)
  · have h := h.1 c6
    refine x_iconst (pc := 16) (v := (-1)) dX7_pathVertex_16 (by decide) ?_
    exact x_endI (pc := 17) dX7_pathVertex_17 rfl h
  · have h := h.2 c6
    refine x_aload_n (pc := 8) dX7_pathVertex_8 0 rfl rfl ?_
    refine x_iload_n (pc := 9) dX7_pathVertex_9 2 rfl rfl ?_
    obtain ⟨Q7, hc8, h⟩ := h
    refine x_callVI (pc := 10) 327 hc8 ok_X7_isVertex dX7_pathVertex_10 tb_848 ⟨⟨rfl, rfl⟩, ⟨by decide, by decide⟩, by decide, by decide⟩ (mK hG (by decide)) (mc_327 hG _) rfl (As := [.int a2]) rfl rfl (Nat.le_of_ble_eq_true rfl) (fun r9 m10 q11 => ?_)
    have h := h r9 m10 q11
    refine x_if_ne (pc := 13) (tgt := 18) dX7_pathVertex_13 (by decide) (fun c12 => ?_) (fun c12 => ?_)
    · have h := h.1 c12
      refine x_iload_n (pc := 18) dX7_pathVertex_18 3 rfl rfl ?_
      refine x_if_ge (pc := 19) (tgt := 25) dX7_pathVertex_19 (by decide) (fun c13 => ?_) (fun c13 => ?_)
      · have h := h.1 c13
        refine x_aload_n (pc := 25) dX7_pathVertex_25 0 rfl rfl ?_
        refine x_aload_n (pc := 26) dX7_pathVertex_26 0 rfl rfl ?_
        refine x_get (pc := 27) 327 5 dX7_pathVertex_27 (mK hG (by decide)) (mc_327 hG _) rfl inX7 (by decide) tb_716 rfl rfl ?_
        refine x_iload_n (pc := 30) dX7_pathVertex_30 2 rfl rfl ?_
        obtain ⟨Q14, hc15, h⟩ := h
        refine x_callVV (pc := 31) 327 hc15 ok_X7_layFar dX7_pathVertex_31 tb_824 ⟨⟨rfl, rfl⟩, ⟨by decide, by decide⟩, by decide, by decide⟩ (mK hG (by decide)) (mc_327 hG _) rfl (As := [.ref (gA G 329), .int a2]) rfl rfl (Nat.le_of_ble_eq_true rfl) (fun m17 q18 => ?_)
        have h := h m17 q18
        refine x_aload_n (pc := 34) dX7_pathVertex_34 0 rfl rfl ?_
        refine x_get (pc := 35) 327 15 dX7_pathVertex_35 (mK hG (by decide)) (mc_327 hG _) rfl inX7 (by decide) tb_726 rfl rfl ?_
        refine x_iload_n (pc := 38) dX7_pathVertex_38 1 rfl rfl ?_
        have n19 := h.1
        refine x_iald (pc := 39) 336 dX7_pathVertex_39 (mK hG (by decide)) (mc_336 hG _) n19 ?_
        have h := h.2
        refine x_bipush (pc := 40) (v := (-9)) dX7_pathVertex_40 (by decide) ?_
        refine x_icmp_eq (pc := 42) (tgt := 55) dX7_pathVertex_42 (by decide) (fun c20 => ?_) (fun c20 => ?_)
        · have h := h.1 c20
          refine x_bipush (pc := 55) (v := (-9)) dX7_pathVertex_55 (by decide) ?_
          exact x_endI (pc := 57) dX7_pathVertex_57 rfl h
        · have h := h.2 c20
          refine x_iload_n (pc := 45) dX7_pathVertex_45 3 rfl rfl ?_
          refine x_aload_n (pc := 46) dX7_pathVertex_46 0 rfl rfl ?_
          refine x_get (pc := 47) 327 16 dX7_pathVertex_47 (mK hG (by decide)) (mc_327 hG _) rfl inX7 (by decide) tb_727 rfl rfl ?_
          refine x_iload_n (pc := 50) dX7_pathVertex_50 1 rfl rfl ?_
          have n21 := h.1
          refine x_iald (pc := 51) 337 dX7_pathVertex_51 (mK hG (by decide)) (mc_337 hG _) n21 ?_
          have h := h.2
          refine x_icmp_le (pc := 52) (tgt := 58) dX7_pathVertex_52 (by decide) (fun c22 => ?_) (fun c22 => ?_)
          · have h := h.1 c22
            refine x_iload_n (pc := 58) dX7_pathVertex_58 1 rfl rfl ?_
            refine x_istore (pc := 59) dX7_pathVertex_59 (by decide) rfl ?_
            refine x_iconst (pc := 61) (v := 0) dX7_pathVertex_61 (by decide) ?_
            refine x_istore (pc := 62) dX7_pathVertex_62 (by decide) rfl ?_
            exact x_sub [2, 5, 1, 0] rfl h
          · have h := h.2 c22
            refine x_bipush (pc := 55) (v := (-9)) dX7_pathVertex_55 (by decide) ?_
            exact x_endI (pc := 57) dX7_pathVertex_57 rfl h
      · have h := h.2 c13
        refine x_bipush (pc := 22) (v := (-2)) dX7_pathVertex_22 (by decide) ?_
        exact x_endI (pc := 24) dX7_pathVertex_24 rfl h
    · have h := h.2 c12
      refine x_iconst (pc := 16) (v := (-1)) dX7_pathVertex_16 (by decide) ?_
      exact x_endI (pc := 17) dX7_pathVertex_17 rfl h
set_option maxRecDepth 100000 in
set_option maxHeartbeats 4000000 in
theorem t_X7_pathVertex_64 {l : Launch} {G : Gx} {P : Int32 → Mem → Prop} (hG : Mn G) (a3 : Int32) (a4 : Int32) (a5 : Int32) (mem : Mem)
    (h : (a3 ≤ a5 → (P a4 mem)) ∧ (¬ a3 ≤ a5 → (XI l M_X7_pathVertex G P mem 77 [(0, .ref (gA G 327)), (3, .int a3), (4, .int a4), (5, .int a5), (6, .int (-9)), (7, .int 0)] []))) :
    XI l M_X7_pathVertex G P mem 64 [(0, .ref (gA G 327)), (3, .int a3), (4, .int a4), (5, .int a5)] [] := by
  refine x_iload (pc := 64) dX7_pathVertex_64 3 rfl ?_
  refine x_iload_n (pc := 66) dX7_pathVertex_66 1 rfl rfl ?_
  refine x_icmp_ge (pc := 67) (tgt := 145) dX7_pathVertex_67 (by decide) (fun c1 => ?_) (fun c1 => ?_)
  · have h := h.1 c1
    refine x_iload (pc := 145) dX7_pathVertex_145 2 rfl ?_
    exact x_endI (pc := 147) dX7_pathVertex_147 rfl h
  · have h := h.2 c1
    refine x_bipush (pc := 70) (v := (-9)) dX7_pathVertex_70 (by decide) ?_
    refine x_istore (pc := 72) dX7_pathVertex_72 (by decide) rfl ?_
    refine x_iconst (pc := 74) (v := 0) dX7_pathVertex_74 (by decide) ?_
    refine x_istore (pc := 75) dX7_pathVertex_75 (by decide) rfl ?_
    exact x_sub [2, 3, 4, 5, 1, 0] rfl h
set_option maxRecDepth 100000 in
set_option maxHeartbeats 4000000 in
theorem t_X7_pathVertex_77 {l : Launch} {G : Gx} {P : Int32 → Mem → Prop} (hG : Mn G) (a3 : Int32) (a4 : Int32) (a5 : Int32) (a6 : Int32) (a7 : Int32) (mem : Mem)
    (h : ((mem 327 3) ≤ a7 → (XI l M_X7_pathVertex G P mem 64 [(0, .ref (gA G 327)), (3, .int a3), (4, .int a6), (5, .int (a5 + 1))] [])) ∧ (¬ (mem 327 3) ≤ a7 → (∃ Q2 : Int32 → Mem → Prop, CtI l M_X7_at G [.int a4, .int a7] mem Q2 ∧ ∀ (r4 : Int32) (m5 : Mem), Q2 r4 m5 → (vp_in r4 156 ∧ (((m5 329 r4.toNatClampNeg) ≤ 0 → (XI l M_X7_pathVertex G P m5 77 [(0, .ref (gA G 327)), (3, .int a3), (4, .int a4), (5, .int a5), (6, .int a6), (7, .int (a7 + 1))] [])) ∧ (¬ (m5 329 r4.toNatClampNeg) ≤ 0 → (vp_in a7 12 ∧ (vp_in a4 12 ∧ ((¬ (m5 337 a7.toNatClampNeg) = ((m5 337 a4.toNatClampNeg) - 1) → (XI l M_X7_pathVertex G P m5 77 [(0, .ref (gA G 327)), (3, .int a3), (4, .int a4), (5, .int a5), (6, .int a6), (7, .int (a7 + 1))] [])) ∧ ((m5 337 a7.toNatClampNeg) = ((m5 337 a4.toNatClampNeg) - 1) → (XI l M_X7_pathVertex G P m5 77 [(0, .ref (gA G 327)), (3, .int a3), (4, .int a4), (5, .int a5), (6, .int a7), (7, .int (a7 + 1))] []))))))))))) :
    XI l M_X7_pathVertex G P mem 77 [(0, .ref (gA G 327)), (3, .int a3), (4, .int a4), (5, .int a5), (6, .int a6), (7, .int a7)] [] := by
  refine x_iload (pc := 77) dX7_pathVertex_77 5 rfl ?_
  refine x_aload_n (pc := 79) dX7_pathVertex_79 0 rfl rfl ?_
  refine x_get (pc := 80) 327 3 dX7_pathVertex_80 (mK hG (by decide)) (mc_327 hG _) rfl inX7 (by decide) tb_714 rfl rfl ?_
  refine x_icmp_ge (pc := 83) (tgt := 135) dX7_pathVertex_83 (by decide) (fun c1 => ?_) (fun c1 => ?_)
  · have h := h.1 c1
    refine x_iload (pc := 135) dX7_pathVertex_135 4 rfl ?_
    refine x_istore (pc := 137) dX7_pathVertex_137 (by decide) rfl ?_
    refine x_iinc (pc := 139) (v := (a5 + 1)) dX7_pathVertex_139 (k := 3) rfl rfl (by decide) rfl ?_
    refine x_goto (pc := 142) (tgt := 64) dX7_pathVertex_142 (by decide) ?_
    exact x_sub [2, 3, 1, 0] rfl h
  · have h := h.2 c1
    refine x_aload_n (pc := 86) dX7_pathVertex_86 0 rfl rfl ?_
    refine x_get (pc := 87) 327 5 dX7_pathVertex_87 (mK hG (by decide)) (mc_327 hG _) rfl inX7 (by decide) tb_716 rfl rfl ?_
    refine x_iload (pc := 90) dX7_pathVertex_90 2 rfl ?_
    refine x_iload (pc := 92) dX7_pathVertex_92 5 rfl ?_
    obtain ⟨Q2, hc3, h⟩ := h
    refine x_callSI (pc := 94) hc3 ok_X7_at dX7_pathVertex_94 tb_828 ⟨⟨rfl, rfl⟩, ⟨by decide, by decide⟩, by decide, by decide⟩ rfl rfl (Nat.le_of_ble_eq_true rfl) (fun r4 m5 q6 => ?_)
    have h := h r4 m5 q6
    have n7 := h.1
    refine x_iald (pc := 97) 329 dX7_pathVertex_97 (mK hG (by decide)) (mc_329 hG _) n7 ?_
    have h := h.2
    refine x_if_le (pc := 98) (tgt := 125) dX7_pathVertex_98 (by decide) (fun c8 => ?_) (fun c8 => ?_)
    · have h := h.1 c8
      refine x_iload (pc := 125) dX7_pathVertex_125 4 rfl ?_
      refine x_istore (pc := 127) dX7_pathVertex_127 (by decide) rfl ?_
      refine x_iinc (pc := 129) (v := (a7 + 1)) dX7_pathVertex_129 (k := 5) rfl rfl (by decide) rfl ?_
      refine x_goto (pc := 132) (tgt := 77) dX7_pathVertex_132 (by decide) ?_
      exact x_sub [2, 3, 4, 5, 1, 0] rfl h
    · have h := h.2 c8
      refine x_aload_n (pc := 101) dX7_pathVertex_101 0 rfl rfl ?_
      refine x_get (pc := 102) 327 16 dX7_pathVertex_102 (mK hG (by decide)) (mc_327 hG _) rfl inX7 (by decide) tb_727 rfl rfl ?_
      refine x_iload (pc := 105) dX7_pathVertex_105 5 rfl ?_
      have n9 := h.1
      refine x_iald (pc := 107) 337 dX7_pathVertex_107 (mK hG (by decide)) (mc_337 hG _) n9 ?_
      have h := h.2
      refine x_aload_n (pc := 108) dX7_pathVertex_108 0 rfl rfl ?_
      refine x_get (pc := 109) 327 16 dX7_pathVertex_109 (mK hG (by decide)) (mc_327 hG _) rfl inX7 (by decide) tb_727 rfl rfl ?_
      refine x_iload (pc := 112) dX7_pathVertex_112 2 rfl ?_
      have n10 := h.1
      refine x_iald (pc := 114) 337 dX7_pathVertex_114 (mK hG (by decide)) (mc_337 hG _) n10 ?_
      have h := h.2
      refine x_iconst (pc := 115) (v := 1) dX7_pathVertex_115 (by decide) ?_
      refine x_isub (pc := 116) dX7_pathVertex_116 ?_
      refine x_icmp_ne (pc := 117) (tgt := 125) dX7_pathVertex_117 (by decide) (fun c11 => ?_) (fun c11 => ?_)
      · have h := h.1 c11
        refine x_iload (pc := 125) dX7_pathVertex_125 4 rfl ?_
        refine x_istore (pc := 127) dX7_pathVertex_127 (by decide) rfl ?_
        refine x_iinc (pc := 129) (v := (a7 + 1)) dX7_pathVertex_129 (k := 5) rfl rfl (by decide) rfl ?_
        refine x_goto (pc := 132) (tgt := 77) dX7_pathVertex_132 (by decide) ?_
        exact x_sub [2, 3, 4, 5, 1, 0] rfl h
      · have h := h.2 c11
        refine x_iload (pc := 120) dX7_pathVertex_120 5 rfl ?_
        refine x_goto (pc := 122) (tgt := 127) dX7_pathVertex_122 (by decide) ?_
        refine x_istore (pc := 127) dX7_pathVertex_127 (by decide) rfl ?_
        refine x_iinc (pc := 129) (v := (a7 + 1)) dX7_pathVertex_129 (k := 5) rfl rfl (by decide) rfl ?_
        refine x_goto (pc := 132) (tgt := 77) dX7_pathVertex_132 (by decide) ?_
        exact x_sub [2, 3, 4, 5, 1, 0] rfl h
set_option maxRecDepth 100000 in
set_option maxHeartbeats 4000000 in
theorem t_X7_eccentricity_0 {l : Launch} {G : Gx} {P : Int32 → Mem → Prop} (hG : Mn G) (a1 : Int32) (mem : Mem)
    (h : ∃ Q1 : Int32 → Mem → Prop, CtI l M_X7_isVertex G [.ref (gA G 327), .int a1] mem Q1 ∧ ∀ (r3 : Int32) (m4 : Mem), Q1 r3 m4 → ((r3 = 0 → (P (-1) m4)) ∧ (¬ r3 = 0 → (∃ Q7 : Int32 → Mem → Prop, CtI l M_X7_eccentricityOf G [.ref (gA G 327), .ref (gA G 329), .int a1] m4 Q7 ∧ ∀ (r9 : Int32) (m10 : Mem), Q7 r9 m10 → (P r9 m10))))) :
    XI l M_X7_eccentricity G P mem 0 [(0, .ref (gA G 327)), (1, .int a1)] [] := by
  refine x_aload_n (pc := 0) dX7_eccentricity_0 0 rfl rfl ?_
  refine x_iload_n (pc := 1) dX7_eccentricity_1 1 rfl rfl ?_
  obtain ⟨Q1, hc2, h⟩ := h
  refine x_callVI (pc := 2) 327 hc2 ok_X7_isVertex dX7_eccentricity_2 tb_848 ⟨⟨rfl, rfl⟩, ⟨by decide, by decide⟩, by decide, by decide⟩ (mK hG (by decide)) (mc_327 hG _) rfl (As := [.int a1]) rfl rfl (Nat.le_of_ble_eq_true rfl) (fun r3 m4 q5 => ?_)
  have h := h r3 m4 q5
  refine x_if_eq (pc := 5) (tgt := 20) dX7_eccentricity_5 (by decide) (fun c6 => ?_) (fun c6 => ?_)
  · have h := h.1 c6
    refine x_iconst (pc := 20) (v := (-1)) dX7_eccentricity_20 (by decide) ?_
    exact x_endI (pc := 21) dX7_eccentricity_21 rfl h
  · have h := h.2 c6
    refine x_aload_n (pc := 8) dX7_eccentricity_8 0 rfl rfl ?_
    refine x_aload_n (pc := 9) dX7_eccentricity_9 0 rfl rfl ?_
    refine x_get (pc := 10) 327 5 dX7_eccentricity_10 (mK hG (by decide)) (mc_327 hG _) rfl inX7 (by decide) tb_716 rfl rfl ?_
    refine x_iload_n (pc := 13) dX7_eccentricity_13 1 rfl rfl ?_
    obtain ⟨Q7, hc8, h⟩ := h
    refine x_callVI (pc := 14) 327 hc8 ok_X7_eccentricityOf dX7_eccentricity_14 tb_905 ⟨⟨rfl, rfl⟩, ⟨by decide, by decide⟩, by decide, by decide⟩ (mK hG (by decide)) (mc_327 hG _) rfl (As := [.ref (gA G 329), .int a1]) rfl rfl (Nat.le_of_ble_eq_true rfl) (fun r9 m10 q11 => ?_)
    have h := h r9 m10 q11
    refine x_goto (pc := 17) (tgt := 21) dX7_eccentricity_17 (by decide) ?_
    exact x_endI (pc := 21) dX7_eccentricity_21 rfl h
set_option maxRecDepth 100000 in
set_option maxHeartbeats 4000000 in
theorem t_X7_diameter_0 {l : Launch} {G : Gx} {P : Int32 → Mem → Prop} (hG : Mn G) (a1 : Int32) (mem : Mem)
    (h : ∃ Q1 : Int32 → Mem → Prop, CtI l M_X7_isVertex G [.ref (gA G 327), .int a1] mem Q1 ∧ ∀ (r3 : Int32) (m4 : Mem), Q1 r3 m4 → ((r3 = 0 → (P (-1) m4)) ∧ (¬ r3 = 0 → (∃ Q7 : Int32 → Mem → Prop, CtI l M_X7_diameterOf G [.ref (gA G 327), .ref (gA G 329), .int a1] m4 Q7 ∧ ∀ (r9 : Int32) (m10 : Mem), Q7 r9 m10 → (P r9 m10))))) :
    XI l M_X7_diameter G P mem 0 [(0, .ref (gA G 327)), (1, .int a1)] [] := by
  refine x_aload_n (pc := 0) dX7_diameter_0 0 rfl rfl ?_
  refine x_iload_n (pc := 1) dX7_diameter_1 1 rfl rfl ?_
  obtain ⟨Q1, hc2, h⟩ := h
  refine x_callVI (pc := 2) 327 hc2 ok_X7_isVertex dX7_diameter_2 tb_848 ⟨⟨rfl, rfl⟩, ⟨by decide, by decide⟩, by decide, by decide⟩ (mK hG (by decide)) (mc_327 hG _) rfl (As := [.int a1]) rfl rfl (Nat.le_of_ble_eq_true rfl) (fun r3 m4 q5 => ?_)
  have h := h r3 m4 q5
  refine x_if_eq (pc := 5) (tgt := 20) dX7_diameter_5 (by decide) (fun c6 => ?_) (fun c6 => ?_)
  · have h := h.1 c6
    refine x_iconst (pc := 20) (v := (-1)) dX7_diameter_20 (by decide) ?_
    exact x_endI (pc := 21) dX7_diameter_21 rfl h
  · have h := h.2 c6
    refine x_aload_n (pc := 8) dX7_diameter_8 0 rfl rfl ?_
    refine x_aload_n (pc := 9) dX7_diameter_9 0 rfl rfl ?_
    refine x_get (pc := 10) 327 5 dX7_diameter_10 (mK hG (by decide)) (mc_327 hG _) rfl inX7 (by decide) tb_716 rfl rfl ?_
    refine x_iload_n (pc := 13) dX7_diameter_13 1 rfl rfl ?_
    obtain ⟨Q7, hc8, h⟩ := h
    refine x_callVI (pc := 14) 327 hc8 ok_X7_diameterOf dX7_diameter_14 tb_913 ⟨⟨rfl, rfl⟩, ⟨by decide, by decide⟩, by decide, by decide⟩ (mK hG (by decide)) (mc_327 hG _) rfl (As := [.ref (gA G 329), .int a1]) rfl rfl (Nat.le_of_ble_eq_true rfl) (fun r9 m10 q11 => ?_)
    have h := h r9 m10 q11
    refine x_goto (pc := 17) (tgt := 21) dX7_diameter_17 (by decide) ?_
    exact x_endI (pc := 21) dX7_diameter_21 rfl h
set_option maxRecDepth 100000 in
set_option maxHeartbeats 4000000 in
theorem t_X7_diameterEnd_0 {l : Launch} {G : Gx} {P : Int32 → Mem → Prop} (hG : Mn G) (a1 : Int32) (a2 : Int32) (mem : Mem)
    (h : ∃ Q1 : Int32 → Mem → Prop, CtI l M_X7_isVertex G [.ref (gA G 327), .int a1] mem Q1 ∧ ∀ (r3 : Int32) (m4 : Mem), Q1 r3 m4 → ((¬ r3 = 0 → (∃ Q7 : Int32 → Mem → Prop, CtI l M_X7_in G [.long ((a2 : Int32).toInt64), .long 0, .long 1] m4 Q7 ∧ ∀ (r9 : Int32) (m10 : Mem), Q7 r9 m10 → ((¬ r9 = 0 → (∃ Q13 : Int32 → Mem → Prop, CtI l M_X7_diameterOf G [.ref (gA G 327), .ref (gA G 329), .int a1] m10 Q13 ∧ ∀ (r15 : Int32) (m16 : Mem), Q13 r15 m16 → (XI l M_X7_diameterEnd G P m16 36 [(0, .ref (gA G 327)), (1, .int a1), (2, .int a2), (3, .int r15), (4, .int 0)] []))) ∧ (r9 = 0 → (P (-2) m10))))) ∧ (r3 = 0 → (P (-1) m4)))) :
    XI l M_X7_diameterEnd G P mem 0 [(0, .ref (gA G 327)), (1, .int a1), (2, .int a2)] [] := by
  refine x_aload_n (pc := 0) dX7_diameterEnd_0 0 rfl rfl ?_
  refine x_iload_n (pc := 1) dX7_diameterEnd_1 1 rfl rfl ?_
  obtain ⟨Q1, hc2, h⟩ := h
  refine x_callVI (pc := 2) 327 hc2 ok_X7_isVertex dX7_diameterEnd_2 tb_848 ⟨⟨rfl, rfl⟩, ⟨by decide, by decide⟩, by decide, by decide⟩ (mK hG (by decide)) (mc_327 hG _) rfl (As := [.int a1]) rfl rfl (Nat.le_of_ble_eq_true rfl) (fun r3 m4 q5 => ?_)
  have h := h r3 m4 q5
  refine x_if_ne (pc := 5) (tgt := 10) dX7_diameterEnd_5 (by decide) (fun c6 => ?_) (fun c6 => ?_)
  · have h := h.1 c6
    refine x_iload_n (pc := 10) dX7_diameterEnd_10 2 rfl rfl ?_
    refine x_i2l (pc := 11) dX7_diameterEnd_11 ?_
    refine x_lconst (pc := 12) (v := 0) dX7_diameterEnd_12 rfl ?_
    refine x_lconst (pc := 13) (v := 1) dX7_diameterEnd_13 rfl ?_
    obtain ⟨Q7, hc8, h⟩ := h
    refine x_callSI (pc := 14) hc8 ok_X7_in dX7_diameterEnd_14 tb_789 ⟨⟨rfl, rfl⟩, ⟨by decide, by decide⟩, by decide, by decide⟩ rfl rfl (Nat.le_of_ble_eq_true rfl) (fun r9 m10 q11 => ?_)
    have h := h r9 m10 q11
    refine x_if_ne (pc := 17) (tgt := 23) dX7_diameterEnd_17 (by decide) (fun c12 => ?_) (fun c12 => ?_)
    · have h := h.1 c12
      refine x_aload_n (pc := 23) dX7_diameterEnd_23 0 rfl rfl ?_
      refine x_aload_n (pc := 24) dX7_diameterEnd_24 0 rfl rfl ?_
      refine x_get (pc := 25) 327 5 dX7_diameterEnd_25 (mK hG (by decide)) (mc_327 hG _) rfl inX7 (by decide) tb_716 rfl rfl ?_
      refine x_iload_n (pc := 28) dX7_diameterEnd_28 1 rfl rfl ?_
      obtain ⟨Q13, hc14, h⟩ := h
      refine x_callVI (pc := 29) 327 hc14 ok_X7_diameterOf dX7_diameterEnd_29 tb_913 ⟨⟨rfl, rfl⟩, ⟨by decide, by decide⟩, by decide, by decide⟩ (mK hG (by decide)) (mc_327 hG _) rfl (As := [.ref (gA G 329), .int a1]) rfl rfl (Nat.le_of_ble_eq_true rfl) (fun r15 m16 q17 => ?_)
      have h := h r15 m16 q17
      refine x_istore_n (pc := 32) dX7_diameterEnd_32 rfl (by decide) rfl ?_
      refine x_iconst (pc := 33) (v := 0) dX7_diameterEnd_33 (by decide) ?_
      refine x_istore (pc := 34) dX7_diameterEnd_34 (by decide) rfl ?_
      exact x_sub [2, 3, 4, 1, 0] rfl h
    · have h := h.2 c12
      refine x_bipush (pc := 20) (v := (-2)) dX7_diameterEnd_20 (by decide) ?_
      exact x_endI (pc := 22) dX7_diameterEnd_22 rfl h
  · have h := h.2 c6
    refine x_iconst (pc := 8) (v := (-1)) dX7_diameterEnd_8 (by decide) ?_
    exact x_endI (pc := 9) dX7_diameterEnd_9 rfl h
set_option maxRecDepth 100000 in
set_option maxHeartbeats 4000000 in
theorem t_X7_diameterEnd_36 {l : Launch} {G : Gx} {P : Int32 → Mem → Prop} (hG : Mn G) (a1 : Int32) (a2 : Int32) (a3 : Int32) (a4 : Int32) (mem : Mem)
    (h : ((mem 327 3) ≤ a4 → (P (-9) mem)) ∧ (¬ (mem 327 3) ≤ a4 → (∃ Q2 : Mem → Prop, CtV l M_X7_layFar G [.ref (gA G 327), .ref (gA G 329), .int a4] mem Q2 ∧ ∀ m5 : Mem, Q2 m5 → (XI l M_X7_diameterEnd G P m5 59 [(0, .ref (gA G 327)), (1, .int a1), (2, .int a2), (3, .int a3), (4, .int a4), (5, .int a4)] [])))) :
    XI l M_X7_diameterEnd G P mem 36 [(0, .ref (gA G 327)), (1, .int a1), (2, .int a2), (3, .int a3), (4, .int a4)] [] := by
  refine x_iload (pc := 36) dX7_diameterEnd_36 4 rfl ?_
  refine x_aload_n (pc := 38) dX7_diameterEnd_38 0 rfl rfl ?_
  refine x_get (pc := 39) 327 3 dX7_diameterEnd_39 (mK hG (by decide)) (mc_327 hG _) rfl inX7 (by decide) tb_714 rfl rfl ?_
  refine x_icmp_ge (pc := 42) (tgt := 114) dX7_diameterEnd_42 (by decide) (fun c1 => ?_) (fun c1 => ?_)
  · have h := h.1 c1
    refine x_bipush (pc := 114) (v := (-9)) dX7_diameterEnd_114 (by decide) ?_
    exact x_endI (pc := 116) dX7_diameterEnd_116 rfl h
  · have h := h.2 c1
    refine x_aload_n (pc := 45) dX7_diameterEnd_45 0 rfl rfl ?_
    refine x_aload_n (pc := 46) dX7_diameterEnd_46 0 rfl rfl ?_
    refine x_get (pc := 47) 327 5 dX7_diameterEnd_47 (mK hG (by decide)) (mc_327 hG _) rfl inX7 (by decide) tb_716 rfl rfl ?_
    refine x_iload (pc := 50) dX7_diameterEnd_50 4 rfl ?_
    obtain ⟨Q2, hc3, h⟩ := h
    refine x_callVV (pc := 52) 327 hc3 ok_X7_layFar dX7_diameterEnd_52 tb_824 ⟨⟨rfl, rfl⟩, ⟨by decide, by decide⟩, by decide, by decide⟩ (mK hG (by decide)) (mc_327 hG _) rfl (As := [.ref (gA G 329), .int a4]) rfl rfl (Nat.le_of_ble_eq_true rfl) (fun m5 q6 => ?_)
    have h := h m5 q6
    refine x_iload (pc := 55) dX7_diameterEnd_55 4 rfl ?_
    refine x_istore (pc := 57) dX7_diameterEnd_57 (by decide) rfl ?_
    exact x_sub [1, 2, 3, 4, 5, 0] rfl h
set_option maxRecDepth 100000 in
set_option maxHeartbeats 4000000 in
theorem t_X7_diameterEnd_59 {l : Launch} {G : Gx} {P : Int32 → Mem → Prop} (hG : Mn G) (a1 : Int32) (a2 : Int32) (a3 : Int32) (a4 : Int32) (a5 : Int32) (mem : Mem)
    (h : ((mem 327 3) ≤ a5 → (XI l M_X7_diameterEnd G P mem 36 [(0, .ref (gA G 327)), (1, .int a1), (2, .int a2), (3, .int a3), (4, .int (a4 + 1))] [])) ∧ (¬ (mem 327 3) ≤ a5 → (vp_in a1 12 ∧ (((mem 336 a1.toNatClampNeg) = (-9) → (XI l M_X7_diameterEnd G P mem 36 [(0, .ref (gA G 327)), (1, .int a1), (2, .int a2), (3, .int a3), (4, .int (a4 + 1))] [])) ∧ (¬ (mem 336 a1.toNatClampNeg) = (-9) → (vp_in a5 12 ∧ ((¬ (mem 336 a5.toNatClampNeg) = a3 → (XI l M_X7_diameterEnd G P mem 59 [(0, .ref (gA G 327)), (1, .int a1), (2, .int a2), (3, .int a3), (4, .int a4), (5, .int (a5 + 1))] [])) ∧ ((mem 336 a5.toNatClampNeg) = a3 → ((¬ a2 = 0 → (P a5 mem)) ∧ (a2 = 0 → (P a4 mem))))))))))) :
    XI l M_X7_diameterEnd G P mem 59 [(0, .ref (gA G 327)), (1, .int a1), (2, .int a2), (3, .int a3), (4, .int a4), (5, .int a5)] [] := by
  refine x_iload (pc := 59) dX7_diameterEnd_59 5 rfl ?_
  refine x_aload_n (pc := 61) dX7_diameterEnd_61 0 rfl rfl ?_
  refine x_get (pc := 62) 327 3 dX7_diameterEnd_62 (mK hG (by decide)) (mc_327 hG _) rfl inX7 (by decide) tb_714 rfl rfl ?_
  refine x_icmp_ge (pc := 65) (tgt := 108) dX7_diameterEnd_65 (by decide) (fun c1 => ?_) (fun c1 => ?_)
  · have h := h.1 c1
    refine x_iinc (pc := 108) (v := (a4 + 1)) dX7_diameterEnd_108 (k := 4) rfl rfl (by decide) rfl ?_
    refine x_goto (pc := 111) (tgt := 36) dX7_diameterEnd_111 (by decide) ?_
    exact x_sub [1, 2, 3, 4, 0] rfl h
  · have h := h.2 c1
    refine x_aload_n (pc := 68) dX7_diameterEnd_68 0 rfl rfl ?_
    refine x_get (pc := 69) 327 15 dX7_diameterEnd_69 (mK hG (by decide)) (mc_327 hG _) rfl inX7 (by decide) tb_726 rfl rfl ?_
    refine x_iload_n (pc := 72) dX7_diameterEnd_72 1 rfl rfl ?_
    have n2 := h.1
    refine x_iald (pc := 73) 336 dX7_diameterEnd_73 (mK hG (by decide)) (mc_336 hG _) n2 ?_
    have h := h.2
    refine x_bipush (pc := 74) (v := (-9)) dX7_diameterEnd_74 (by decide) ?_
    refine x_icmp_eq (pc := 76) (tgt := 108) dX7_diameterEnd_76 (by decide) (fun c3 => ?_) (fun c3 => ?_)
    · have h := h.1 c3
      refine x_iinc (pc := 108) (v := (a4 + 1)) dX7_diameterEnd_108 (k := 4) rfl rfl (by decide) rfl ?_
      refine x_goto (pc := 111) (tgt := 36) dX7_diameterEnd_111 (by decide) ?_
      exact x_sub [1, 2, 3, 4, 0] rfl h
    · have h := h.2 c3
      refine x_aload_n (pc := 79) dX7_diameterEnd_79 0 rfl rfl ?_
      refine x_get (pc := 80) 327 15 dX7_diameterEnd_80 (mK hG (by decide)) (mc_327 hG _) rfl inX7 (by decide) tb_726 rfl rfl ?_
      refine x_iload (pc := 83) dX7_diameterEnd_83 5 rfl ?_
      have n4 := h.1
      refine x_iald (pc := 85) 336 dX7_diameterEnd_85 (mK hG (by decide)) (mc_336 hG _) n4 ?_
      have h := h.2
      refine x_iload_n (pc := 86) dX7_diameterEnd_86 3 rfl rfl ?_
      refine x_icmp_ne (pc := 87) (tgt := 102) dX7_diameterEnd_87 (by decide) (fun c5 => ?_) (fun c5 => ?_)
      · have h := h.1 c5
        refine x_iinc (pc := 102) (v := (a5 + 1)) dX7_diameterEnd_102 (k := 5) rfl rfl (by decide) rfl ?_
        refine x_goto (pc := 105) (tgt := 59) dX7_diameterEnd_105 (by decide) ?_
        exact x_sub [1, 2, 3, 4, 5, 0] rfl h
      · have h := h.2 c5
        refine x_iload_n (pc := 90) dX7_diameterEnd_90 2 rfl rfl ?_
        refine x_if_ne (pc := 91) (tgt := 99) dX7_diameterEnd_91 (by decide) (fun c6 => ?_) (fun c6 => ?_)
        · have h := h.1 c6
          refine x_iload (pc := 99) dX7_diameterEnd_99 5 rfl ?_
          exact x_endI (pc := 101) dX7_diameterEnd_101 rfl h
        · have h := h.2 c6
          refine x_iload (pc := 94) dX7_diameterEnd_94 4 rfl ?_
          refine x_goto (pc := 96) (tgt := 101) dX7_diameterEnd_96 (by decide) ?_
          exact x_endI (pc := 101) dX7_diameterEnd_101 rfl h
set_option maxRecDepth 100000 in
set_option maxHeartbeats 4000000 in
theorem t_X7_centre_0 {l : Launch} {G : Gx} {P : Int32 → Mem → Prop} (hG : Mn G) (a1 : Int32) (mem : Mem)
    (h : ∃ Q1 : Int32 → Mem → Prop, CtI l M_X7_isVertex G [.ref (gA G 327), .int a1] mem Q1 ∧ ∀ (r3 : Int32) (m4 : Mem), Q1 r3 m4 → ((r3 = 0 → (P (-1) m4)) ∧ (¬ r3 = 0 → (∃ Q7 : Int32 → Mem → Prop, CtI l M_X7_leastOf G [.ref (gA G 327), .ref (gA G 329), .int a1, .int 0] m4 Q7 ∧ ∀ (r9 : Int32) (m10 : Mem), Q7 r9 m10 → (P r9 m10))))) :
    XI l M_X7_centre G P mem 0 [(0, .ref (gA G 327)), (1, .int a1)] [] := by
  refine x_aload_n (pc := 0) dX7_centre_0 0 rfl rfl ?_
  refine x_iload_n (pc := 1) dX7_centre_1 1 rfl rfl ?_
  obtain ⟨Q1, hc2, h⟩ := h
  refine x_callVI (pc := 2) 327 hc2 ok_X7_isVertex dX7_centre_2 tb_848 ⟨⟨rfl, rfl⟩, ⟨by decide, by decide⟩, by decide, by decide⟩ (mK hG (by decide)) (mc_327 hG _) rfl (As := [.int a1]) rfl rfl (Nat.le_of_ble_eq_true rfl) (fun r3 m4 q5 => ?_)
  have h := h r3 m4 q5
  refine x_if_eq (pc := 5) (tgt := 21) dX7_centre_5 (by decide) (fun c6 => ?_) (fun c6 => ?_)
  · have h := h.1 c6
    refine x_iconst (pc := 21) (v := (-1)) dX7_centre_21 (by decide) ?_
    exact x_endI (pc := 22) dX7_centre_22 rfl h
  · have h := h.2 c6
    refine x_aload_n (pc := 8) dX7_centre_8 0 rfl rfl ?_
    refine x_aload_n (pc := 9) dX7_centre_9 0 rfl rfl ?_
    refine x_get (pc := 10) 327 5 dX7_centre_10 (mK hG (by decide)) (mc_327 hG _) rfl inX7 (by decide) tb_716 rfl rfl ?_
    refine x_iload_n (pc := 13) dX7_centre_13 1 rfl rfl ?_
    refine x_iconst (pc := 14) (v := 0) dX7_centre_14 (by decide) ?_
    obtain ⟨Q7, hc8, h⟩ := h
    refine x_callVI (pc := 15) 327 hc8 ok_X7_leastOf dX7_centre_15 tb_925 ⟨⟨rfl, rfl⟩, ⟨by decide, by decide⟩, by decide, by decide⟩ (mK hG (by decide)) (mc_327 hG _) rfl (As := [.ref (gA G 329), .int a1, .int 0]) rfl rfl (Nat.le_of_ble_eq_true rfl) (fun r9 m10 q11 => ?_)
    have h := h r9 m10 q11
    refine x_goto (pc := 18) (tgt := 22) dX7_centre_18 (by decide) ?_
    exact x_endI (pc := 22) dX7_centre_22 rfl h
set_option maxRecDepth 100000 in
set_option maxHeartbeats 4000000 in
theorem t_X7_median_0 {l : Launch} {G : Gx} {P : Int32 → Mem → Prop} (hG : Mn G) (a1 : Int32) (mem : Mem)
    (h : ∃ Q1 : Int32 → Mem → Prop, CtI l M_X7_isVertex G [.ref (gA G 327), .int a1] mem Q1 ∧ ∀ (r3 : Int32) (m4 : Mem), Q1 r3 m4 → ((r3 = 0 → (P (-1) m4)) ∧ (¬ r3 = 0 → (∃ Q7 : Int32 → Mem → Prop, CtI l M_X7_leastOf G [.ref (gA G 327), .ref (gA G 329), .int a1, .int 1] m4 Q7 ∧ ∀ (r9 : Int32) (m10 : Mem), Q7 r9 m10 → (P r9 m10))))) :
    XI l M_X7_median G P mem 0 [(0, .ref (gA G 327)), (1, .int a1)] [] := by
  refine x_aload_n (pc := 0) dX7_median_0 0 rfl rfl ?_
  refine x_iload_n (pc := 1) dX7_median_1 1 rfl rfl ?_
  obtain ⟨Q1, hc2, h⟩ := h
  refine x_callVI (pc := 2) 327 hc2 ok_X7_isVertex dX7_median_2 tb_848 ⟨⟨rfl, rfl⟩, ⟨by decide, by decide⟩, by decide, by decide⟩ (mK hG (by decide)) (mc_327 hG _) rfl (As := [.int a1]) rfl rfl (Nat.le_of_ble_eq_true rfl) (fun r3 m4 q5 => ?_)
  have h := h r3 m4 q5
  refine x_if_eq (pc := 5) (tgt := 21) dX7_median_5 (by decide) (fun c6 => ?_) (fun c6 => ?_)
  · have h := h.1 c6
    refine x_iconst (pc := 21) (v := (-1)) dX7_median_21 (by decide) ?_
    exact x_endI (pc := 22) dX7_median_22 rfl h
  · have h := h.2 c6
    refine x_aload_n (pc := 8) dX7_median_8 0 rfl rfl ?_
    refine x_aload_n (pc := 9) dX7_median_9 0 rfl rfl ?_
    refine x_get (pc := 10) 327 5 dX7_median_10 (mK hG (by decide)) (mc_327 hG _) rfl inX7 (by decide) tb_716 rfl rfl ?_
    refine x_iload_n (pc := 13) dX7_median_13 1 rfl rfl ?_
    refine x_iconst (pc := 14) (v := 1) dX7_median_14 (by decide) ?_
    obtain ⟨Q7, hc8, h⟩ := h
    refine x_callVI (pc := 15) 327 hc8 ok_X7_leastOf dX7_median_15 tb_925 ⟨⟨rfl, rfl⟩, ⟨by decide, by decide⟩, by decide, by decide⟩ (mK hG (by decide)) (mc_327 hG _) rfl (As := [.ref (gA G 329), .int a1, .int 1]) rfl rfl (Nat.le_of_ble_eq_true rfl) (fun r9 m10 q11 => ?_)
    have h := h r9 m10 q11
    refine x_goto (pc := 18) (tgt := 22) dX7_median_18 (by decide) ?_
    exact x_endI (pc := 22) dX7_median_22 rfl h
set_option maxRecDepth 100000 in
set_option maxHeartbeats 4000000 in
theorem t_X7_cost_0 {l : Launch} {G : Gx} {P : Int32 → Mem → Prop} (hG : Mn G) (a1 : Int32) (mem : Mem)
    (h : ∃ Q1 : Int32 → Mem → Prop, CtI l M_X7_isVertex G [.ref (gA G 327), .int a1] mem Q1 ∧ ∀ (r3 : Int32) (m4 : Mem), Q1 r3 m4 → ((r3 = 0 → (P (-1) m4)) ∧ (¬ r3 = 0 → (∃ Q7 : Int32 → Mem → Prop, CtI l M_X7_costOf G [.ref (gA G 327), .ref (gA G 329), .int a1] m4 Q7 ∧ ∀ (r9 : Int32) (m10 : Mem), Q7 r9 m10 → (P r9 m10))))) :
    XI l M_X7_cost G P mem 0 [(0, .ref (gA G 327)), (1, .int a1)] [] := by
  refine x_aload_n (pc := 0) dX7_cost_0 0 rfl rfl ?_
  refine x_iload_n (pc := 1) dX7_cost_1 1 rfl rfl ?_
  obtain ⟨Q1, hc2, h⟩ := h
  refine x_callVI (pc := 2) 327 hc2 ok_X7_isVertex dX7_cost_2 tb_848 ⟨⟨rfl, rfl⟩, ⟨by decide, by decide⟩, by decide, by decide⟩ (mK hG (by decide)) (mc_327 hG _) rfl (As := [.int a1]) rfl rfl (Nat.le_of_ble_eq_true rfl) (fun r3 m4 q5 => ?_)
  have h := h r3 m4 q5
  refine x_if_eq (pc := 5) (tgt := 20) dX7_cost_5 (by decide) (fun c6 => ?_) (fun c6 => ?_)
  · have h := h.1 c6
    refine x_iconst (pc := 20) (v := (-1)) dX7_cost_20 (by decide) ?_
    exact x_endI (pc := 21) dX7_cost_21 rfl h
  · have h := h.2 c6
    refine x_aload_n (pc := 8) dX7_cost_8 0 rfl rfl ?_
    refine x_aload_n (pc := 9) dX7_cost_9 0 rfl rfl ?_
    refine x_get (pc := 10) 327 5 dX7_cost_10 (mK hG (by decide)) (mc_327 hG _) rfl inX7 (by decide) tb_716 rfl rfl ?_
    refine x_iload_n (pc := 13) dX7_cost_13 1 rfl rfl ?_
    obtain ⟨Q7, hc8, h⟩ := h
    refine x_callVI (pc := 14) 327 hc8 ok_X7_costOf dX7_cost_14 tb_929 ⟨⟨rfl, rfl⟩, ⟨by decide, by decide⟩, by decide, by decide⟩ (mK hG (by decide)) (mc_327 hG _) rfl (As := [.ref (gA G 329), .int a1]) rfl rfl (Nat.le_of_ble_eq_true rfl) (fun r9 m10 q11 => ?_)
    have h := h r9 m10 q11
    refine x_goto (pc := 17) (tgt := 21) dX7_cost_17 (by decide) ?_
    exact x_endI (pc := 21) dX7_cost_21 rfl h
set_option maxRecDepth 100000 in
set_option maxHeartbeats 4000000 in
theorem t_X7_liesBetween_0 {l : Launch} {G : Gx} {P : Int32 → Mem → Prop} (hG : Mn G) (a1 : Int32) (a2 : Int32) (a3 : Int32) (mem : Mem)
    (h : ∃ Q1 : Int32 → Mem → Prop, CtI l M_X7_farOf G [.ref (gA G 327), .ref (gA G 329), .int a2, .int a3] mem Q1 ∧ ∀ (r3 : Int32) (m4 : Mem), Q1 r3 m4 → (∃ Q6 : Mem → Prop, CtV l M_X7_layFar G [.ref (gA G 327), .ref (gA G 329), .int a1] m4 Q6 ∧ ∀ m9 : Mem, Q6 m9 → (vp_in a2 12 ∧ (((m9 336 a2.toNatClampNeg) = (-9) → (P 0 m9)) ∧ (¬ (m9 336 a2.toNatClampNeg) = (-9) → (vp_in a2 12 ∧ (vp_in a3 12 ∧ ((¬ ((m9 336 a2.toNatClampNeg) + (m9 336 a3.toNatClampNeg)) = r3 → (P 0 m9)) ∧ (((m9 336 a2.toNatClampNeg) + (m9 336 a3.toNatClampNeg)) = r3 → (P 1 m9)))))))))) :
    XI l M_X7_liesBetween G P mem 0 [(0, .ref (gA G 327)), (1, .int a1), (2, .int a2), (3, .int a3)] [] := by
  refine x_aload_n (pc := 0) dX7_liesBetween_0 0 rfl rfl ?_
  refine x_aload_n (pc := 1) dX7_liesBetween_1 0 rfl rfl ?_
  refine x_get (pc := 2) 327 5 dX7_liesBetween_2 (mK hG (by decide)) (mc_327 hG _) rfl inX7 (by decide) tb_716 rfl rfl ?_
  refine x_iload_n (pc := 5) dX7_liesBetween_5 2 rfl rfl ?_
  refine x_iload_n (pc := 6) dX7_liesBetween_6 3 rfl rfl ?_
  obtain ⟨Q1, hc2, h⟩ := h
  refine x_callVI (pc := 7) 327 hc2 ok_X7_farOf dX7_liesBetween_7 tb_820 ⟨⟨rfl, rfl⟩, ⟨by decide, by decide⟩, by decide, by decide⟩ (mK hG (by decide)) (mc_327 hG _) rfl (As := [.ref (gA G 329), .int a2, .int a3]) rfl rfl (Nat.le_of_ble_eq_true rfl) (fun r3 m4 q5 => ?_)
  have h := h r3 m4 q5
  refine x_istore (pc := 10) dX7_liesBetween_10 (by decide) rfl ?_
  refine x_aload_n (pc := 12) dX7_liesBetween_12 1 rfl rfl ?_
  refine x_aload_n (pc := 13) dX7_liesBetween_13 1 rfl rfl ?_
  refine x_get (pc := 14) 327 5 dX7_liesBetween_14 (mK hG (by decide)) (mc_327 hG _) rfl inX7 (by decide) tb_716 rfl rfl ?_
  refine x_iload_n (pc := 17) dX7_liesBetween_17 2 rfl rfl ?_
  obtain ⟨Q6, hc7, h⟩ := h
  refine x_callVV (pc := 18) 327 hc7 ok_X7_layFar dX7_liesBetween_18 tb_824 ⟨⟨rfl, rfl⟩, ⟨by decide, by decide⟩, by decide, by decide⟩ (mK hG (by decide)) (mc_327 hG _) rfl (As := [.ref (gA G 329), .int a1]) rfl rfl (Nat.le_of_ble_eq_true rfl) (fun m9 q10 => ?_)
  have h := h m9 q10
  refine x_aload_n (pc := 21) dX7_liesBetween_21 1 rfl rfl ?_
  refine x_get (pc := 22) 327 15 dX7_liesBetween_22 (mK hG (by decide)) (mc_327 hG _) rfl inX7 (by decide) tb_726 rfl rfl ?_
  refine x_iload_n (pc := 25) dX7_liesBetween_25 3 rfl rfl ?_
  have n11 := h.1
  refine x_iald (pc := 26) 336 dX7_liesBetween_26 (mK hG (by decide)) (mc_336 hG _) n11 ?_
  have h := h.2
  refine x_bipush (pc := 27) (v := (-9)) dX7_liesBetween_27 (by decide) ?_
  refine x_icmp_eq (pc := 29) (tgt := 54) dX7_liesBetween_29 (by decide) (fun c12 => ?_) (fun c12 => ?_)
  · have h := h.1 c12
    refine x_iconst (pc := 54) (v := 0) dX7_liesBetween_54 (by decide) ?_
    exact x_endZ (pc := 55) dX7_liesBetween_55 rfl (Or.inl rfl) h
  · have h := h.2 c12
    refine x_aload_n (pc := 32) dX7_liesBetween_32 1 rfl rfl ?_
    refine x_get (pc := 33) 327 15 dX7_liesBetween_33 (mK hG (by decide)) (mc_327 hG _) rfl inX7 (by decide) tb_726 rfl rfl ?_
    refine x_iload_n (pc := 36) dX7_liesBetween_36 3 rfl rfl ?_
    have n13 := h.1
    refine x_iald (pc := 37) 336 dX7_liesBetween_37 (mK hG (by decide)) (mc_336 hG _) n13 ?_
    have h := h.2
    refine x_aload_n (pc := 38) dX7_liesBetween_38 1 rfl rfl ?_
    refine x_get (pc := 39) 327 15 dX7_liesBetween_39 (mK hG (by decide)) (mc_327 hG _) rfl inX7 (by decide) tb_726 rfl rfl ?_
    refine x_iload_n (pc := 42) dX7_liesBetween_42 4 rfl rfl ?_
    have n14 := h.1
    refine x_iald (pc := 43) 336 dX7_liesBetween_43 (mK hG (by decide)) (mc_336 hG _) n14 ?_
    have h := h.2
    refine x_iadd (pc := 44) dX7_liesBetween_44 ?_
    refine x_iload (pc := 45) dX7_liesBetween_45 0 rfl ?_
    refine x_icmp_ne (pc := 47) (tgt := 54) dX7_liesBetween_47 (by decide) (fun c15 => ?_) (fun c15 => ?_)
    · have h := h.1 c15
      refine x_iconst (pc := 54) (v := 0) dX7_liesBetween_54 (by decide) ?_
      exact x_endZ (pc := 55) dX7_liesBetween_55 rfl (Or.inl rfl) h
    · have h := h.2 c15
      refine x_iconst (pc := 50) (v := 1) dX7_liesBetween_50 (by decide) ?_
      refine x_goto (pc := 51) (tgt := 55) dX7_liesBetween_51 (by decide) ?_
      exact x_endZ (pc := 55) dX7_liesBetween_55 rfl (Or.inr rfl) h
set_option maxRecDepth 100000 in
set_option maxHeartbeats 4000000 in
theorem t_X7_meeting_0 {l : Launch} {G : Gx} {P : Int32 → Mem → Prop} (hG : Mn G) (a1 : Int32) (a2 : Int32) (a3 : Int32) (mem : Mem)
    (h : ∃ Q1 : Int32 → Mem → Prop, CtI l M_X7_isVertex G [.ref (gA G 327), .int a1] mem Q1 ∧ ∀ (r3 : Int32) (m4 : Mem), Q1 r3 m4 → ((r3 = 0 → (P (-1) m4)) ∧ (¬ r3 = 0 → (∃ Q7 : Int32 → Mem → Prop, CtI l M_X7_isVertex G [.ref (gA G 327), .int a2] m4 Q7 ∧ ∀ (r9 : Int32) (m10 : Mem), Q7 r9 m10 → ((r9 = 0 → (P (-1) m10)) ∧ (¬ r9 = 0 → (∃ Q13 : Int32 → Mem → Prop, CtI l M_X7_isVertex G [.ref (gA G 327), .int a3] m10 Q13 ∧ ∀ (r15 : Int32) (m16 : Mem), Q13 r15 m16 → ((¬ r15 = 0 → (∃ Q19 : Int32 → Mem → Prop, CtI l M_X7_isOneTree G [.ref (gA G 327), .ref (gA G 329), .int a1, .int a2] m16 Q19 ∧ ∀ (r21 : Int32) (m22 : Mem), Q19 r21 m22 → ((r21 = 0 → (P (-9) m22)) ∧ (¬ r21 = 0 → (∃ Q25 : Int32 → Mem → Prop, CtI l M_X7_isOneTree G [.ref (gA G 327), .ref (gA G 329), .int a1, .int a3] m22 Q25 ∧ ∀ (r27 : Int32) (m28 : Mem), Q25 r27 m28 → ((¬ r27 = 0 → (XI l M_X7_meeting G P m28 58 [(0, .ref (gA G 327)), (1, .int a1), (2, .int a2), (3, .int a3), (4, .int 0)] [])) ∧ (r27 = 0 → (P (-9) m28)))))))) ∧ (r15 = 0 → (P (-1) m16)))))))))) :
    XI l M_X7_meeting G P mem 0 [(0, .ref (gA G 327)), (1, .int a1), (2, .int a2), (3, .int a3)] [] := by
  refine x_aload_n (pc := 0) dX7_meeting_0 0 rfl rfl ?_
  refine x_iload_n (pc := 1) dX7_meeting_1 1 rfl rfl ?_
  obtain ⟨Q1, hc2, h⟩ := h
  refine x_callVI (pc := 2) 327 hc2 ok_X7_isVertex dX7_meeting_2 tb_848 ⟨⟨rfl, rfl⟩, ⟨by decide, by decide⟩, by decide, by decide⟩ (mK hG (by decide)) (mc_327 hG _) rfl (As := [.int a1]) rfl rfl (Nat.le_of_ble_eq_true rfl) (fun r3 m4 q5 => ?_)
  have h := h r3 m4 q5
  refine x_if_eq (pc := 5) (tgt := 24) dX7_meeting_5 (by decide) (fun c6 => ?_) (fun c6 => ?_)
  · have h := h.1 c6
    refine x_iconst (pc := 24) (v := (-1)) dX7_meeting_24 (by decide) ?_
    exact x_endI (pc := 25) dX7_meeting_25 rfl h
  · have h := h.2 c6
    refine x_aload_n (pc := 8) dX7_meeting_8 0 rfl rfl ?_
    refine x_iload_n (pc := 9) dX7_meeting_9 2 rfl rfl ?_
    obtain ⟨Q7, hc8, h⟩ := h
    refine x_callVI (pc := 10) 327 hc8 ok_X7_isVertex dX7_meeting_10 tb_848 ⟨⟨rfl, rfl⟩, ⟨by decide, by decide⟩, by decide, by decide⟩ (mK hG (by decide)) (mc_327 hG _) rfl (As := [.int a2]) rfl rfl (Nat.le_of_ble_eq_true rfl) (fun r9 m10 q11 => ?_)
    have h := h r9 m10 q11
    refine x_if_eq (pc := 13) (tgt := 24) dX7_meeting_13 (by decide) (fun c12 => ?_) (fun c12 => ?_)
    · have h := h.1 c12
      refine x_iconst (pc := 24) (v := (-1)) dX7_meeting_24 (by decide) ?_
      exact x_endI (pc := 25) dX7_meeting_25 rfl h
    · have h := h.2 c12
      refine x_aload_n (pc := 16) dX7_meeting_16 0 rfl rfl ?_
      refine x_iload_n (pc := 17) dX7_meeting_17 3 rfl rfl ?_
      obtain ⟨Q13, hc14, h⟩ := h
      refine x_callVI (pc := 18) 327 hc14 ok_X7_isVertex dX7_meeting_18 tb_848 ⟨⟨rfl, rfl⟩, ⟨by decide, by decide⟩, by decide, by decide⟩ (mK hG (by decide)) (mc_327 hG _) rfl (As := [.int a3]) rfl rfl (Nat.le_of_ble_eq_true rfl) (fun r15 m16 q17 => ?_)
      have h := h r15 m16 q17
      refine x_if_ne (pc := 21) (tgt := 26) dX7_meeting_21 (by decide) (fun c18 => ?_) (fun c18 => ?_)
      · have h := h.1 c18
        refine x_aload_n (pc := 26) dX7_meeting_26 0 rfl rfl ?_
        refine x_aload_n (pc := 27) dX7_meeting_27 0 rfl rfl ?_
        refine x_get (pc := 28) 327 5 dX7_meeting_28 (mK hG (by decide)) (mc_327 hG _) rfl inX7 (by decide) tb_716 rfl rfl ?_
        refine x_iload_n (pc := 31) dX7_meeting_31 1 rfl rfl ?_
        refine x_iload_n (pc := 32) dX7_meeting_32 2 rfl rfl ?_
        obtain ⟨Q19, hc20, h⟩ := h
        refine x_callVI (pc := 33) 327 hc20 ok_X7_isOneTree dX7_meeting_33 tb_816 ⟨⟨rfl, rfl⟩, ⟨by decide, by decide⟩, by decide, by decide⟩ (mK hG (by decide)) (mc_327 hG _) rfl (As := [.ref (gA G 329), .int a1, .int a2]) rfl rfl (Nat.le_of_ble_eq_true rfl) (fun r21 m22 q23 => ?_)
        have h := h r21 m22 q23
        refine x_if_eq (pc := 36) (tgt := 52) dX7_meeting_36 (by decide) (fun c24 => ?_) (fun c24 => ?_)
        · have h := h.1 c24
          refine x_bipush (pc := 52) (v := (-9)) dX7_meeting_52 (by decide) ?_
          exact x_endI (pc := 54) dX7_meeting_54 rfl h
        · have h := h.2 c24
          refine x_aload_n (pc := 39) dX7_meeting_39 0 rfl rfl ?_
          refine x_aload_n (pc := 40) dX7_meeting_40 0 rfl rfl ?_
          refine x_get (pc := 41) 327 5 dX7_meeting_41 (mK hG (by decide)) (mc_327 hG _) rfl inX7 (by decide) tb_716 rfl rfl ?_
          refine x_iload_n (pc := 44) dX7_meeting_44 1 rfl rfl ?_
          refine x_iload_n (pc := 45) dX7_meeting_45 3 rfl rfl ?_
          obtain ⟨Q25, hc26, h⟩ := h
          refine x_callVI (pc := 46) 327 hc26 ok_X7_isOneTree dX7_meeting_46 tb_816 ⟨⟨rfl, rfl⟩, ⟨by decide, by decide⟩, by decide, by decide⟩ (mK hG (by decide)) (mc_327 hG _) rfl (As := [.ref (gA G 329), .int a1, .int a3]) rfl rfl (Nat.le_of_ble_eq_true rfl) (fun r27 m28 q29 => ?_)
          have h := h r27 m28 q29
          refine x_if_ne (pc := 49) (tgt := 55) dX7_meeting_49 (by decide) (fun c30 => ?_) (fun c30 => ?_)
          · have h := h.1 c30
            refine x_iconst (pc := 55) (v := 0) dX7_meeting_55 (by decide) ?_
            refine x_istore (pc := 56) dX7_meeting_56 (by decide) rfl ?_
            exact x_sub [1, 2, 3, 4, 0] rfl h
          · have h := h.2 c30
            refine x_bipush (pc := 52) (v := (-9)) dX7_meeting_52 (by decide) ?_
            exact x_endI (pc := 54) dX7_meeting_54 rfl h
      · have h := h.2 c18
        refine x_iconst (pc := 24) (v := (-1)) dX7_meeting_24 (by decide) ?_
        exact x_endI (pc := 25) dX7_meeting_25 rfl h
set_option maxRecDepth 100000 in
set_option maxHeartbeats 4000000 in
theorem t_X7_meeting_58 {l : Launch} {G : Gx} {P : Int32 → Mem → Prop} (hG : Mn G) (a1 : Int32) (a2 : Int32) (a3 : Int32) (a4 : Int32) (mem : Mem)
    (h : ∃ Q1 : Int32 → Mem → Prop, CtI l M_X7_liesBetween G [.ref (gA G 327), .int a4, .int a1, .int a2] mem Q1 ∧ ∀ (r3 : Int32) (m4 : Mem), Q1 r3 m4 → ((r3 = 0 → (XI l M_X7_meeting G P m4 58 [(0, .ref (gA G 327)), (1, .int a1), (2, .int a2), (3, .int a3), (4, .int (a4 + 1))] [])) ∧ (¬ r3 = 0 → (∃ Q7 : Int32 → Mem → Prop, CtI l M_X7_liesBetween G [.ref (gA G 327), .int a4, .int a1, .int a3] m4 Q7 ∧ ∀ (r9 : Int32) (m10 : Mem), Q7 r9 m10 → ((r9 = 0 → (XI l M_X7_meeting G P m10 58 [(0, .ref (gA G 327)), (1, .int a1), (2, .int a2), (3, .int a3), (4, .int (a4 + 1))] [])) ∧ (¬ r9 = 0 → (∃ Q13 : Int32 → Mem → Prop, CtI l M_X7_liesBetween G [.ref (gA G 327), .int a4, .int a2, .int a3] m10 Q13 ∧ ∀ (r15 : Int32) (m16 : Mem), Q13 r15 m16 → ((¬ r15 = 0 → (P a4 m16)) ∧ (r15 = 0 → (XI l M_X7_meeting G P m16 58 [(0, .ref (gA G 327)), (1, .int a1), (2, .int a2), (3, .int a3), (4, .int (a4 + 1))] [])))))))))) :
    XI l M_X7_meeting G P mem 58 [(0, .ref (gA G 327)), (1, .int a1), (2, .int a2), (3, .int a3), (4, .int a4)] [] := by
  refine x_aload_n (pc := 58) dX7_meeting_58 0 rfl rfl ?_
  refine x_iload (pc := 59) dX7_meeting_59 4 rfl ?_
  refine x_iload_n (pc := 61) dX7_meeting_61 1 rfl rfl ?_
  refine x_iload_n (pc := 62) dX7_meeting_62 2 rfl rfl ?_
  obtain ⟨Q1, hc2, h⟩ := h
  refine x_callVI (pc := 63) 327 hc2 ok_X7_liesBetween dX7_meeting_63 tb_945 ⟨⟨rfl, rfl⟩, ⟨by decide, by decide⟩, by decide, by decide⟩ (mK hG (by decide)) (mc_327 hG _) rfl (As := [.int a4, .int a1, .int a2]) rfl rfl (Nat.le_of_ble_eq_true rfl) (fun r3 m4 q5 => ?_)
  have h := h r3 m4 q5
  refine x_if_eq (pc := 66) (tgt := 91) dX7_meeting_66 (by decide) (fun c6 => ?_) (fun c6 => ?_)
  · have h := h.1 c6
    refine x_iinc (pc := 91) (v := (a4 + 1)) dX7_meeting_91 (k := 4) rfl rfl (by decide) rfl ?_
    refine x_goto (pc := 94) (tgt := 58) dX7_meeting_94 (by decide) ?_
    exact x_sub [1, 2, 3, 4, 0] rfl h
  · have h := h.2 c6
    refine x_aload_n (pc := 69) dX7_meeting_69 0 rfl rfl ?_
    refine x_iload (pc := 70) dX7_meeting_70 4 rfl ?_
    refine x_iload_n (pc := 72) dX7_meeting_72 1 rfl rfl ?_
    refine x_iload_n (pc := 73) dX7_meeting_73 3 rfl rfl ?_
    obtain ⟨Q7, hc8, h⟩ := h
    refine x_callVI (pc := 74) 327 hc8 ok_X7_liesBetween dX7_meeting_74 tb_945 ⟨⟨rfl, rfl⟩, ⟨by decide, by decide⟩, by decide, by decide⟩ (mK hG (by decide)) (mc_327 hG _) rfl (As := [.int a4, .int a1, .int a3]) rfl rfl (Nat.le_of_ble_eq_true rfl) (fun r9 m10 q11 => ?_)
    have h := h r9 m10 q11
    refine x_if_eq (pc := 77) (tgt := 91) dX7_meeting_77 (by decide) (fun c12 => ?_) (fun c12 => ?_)
    · have h := h.1 c12
      refine x_iinc (pc := 91) (v := (a4 + 1)) dX7_meeting_91 (k := 4) rfl rfl (by decide) rfl ?_
      refine x_goto (pc := 94) (tgt := 58) dX7_meeting_94 (by decide) ?_
      exact x_sub [1, 2, 3, 4, 0] rfl h
    · have h := h.2 c12
      refine x_aload_n (pc := 80) dX7_meeting_80 0 rfl rfl ?_
      refine x_iload (pc := 81) dX7_meeting_81 4 rfl ?_
      refine x_iload_n (pc := 83) dX7_meeting_83 2 rfl rfl ?_
      refine x_iload_n (pc := 84) dX7_meeting_84 3 rfl rfl ?_
      obtain ⟨Q13, hc14, h⟩ := h
      refine x_callVI (pc := 85) 327 hc14 ok_X7_liesBetween dX7_meeting_85 tb_945 ⟨⟨rfl, rfl⟩, ⟨by decide, by decide⟩, by decide, by decide⟩ (mK hG (by decide)) (mc_327 hG _) rfl (As := [.int a4, .int a2, .int a3]) rfl rfl (Nat.le_of_ble_eq_true rfl) (fun r15 m16 q17 => ?_)
      have h := h r15 m16 q17
      refine x_if_ne (pc := 88) (tgt := 97) dX7_meeting_88 (by decide) (fun c18 => ?_) (fun c18 => ?_)
      · have h := h.1 c18
        refine x_iload (pc := 97) dX7_meeting_97 4 rfl ?_
        exact x_endI (pc := 99) dX7_meeting_99 rfl h
      · have h := h.2 c18
        refine x_iinc (pc := 91) (v := (a4 + 1)) dX7_meeting_91 (k := 4) rfl rfl (by decide) rfl ?_
        refine x_goto (pc := 94) (tgt := 58) dX7_meeting_94 (by decide) ?_
        exact x_sub [1, 2, 3, 4, 0] rfl h
set_option maxRecDepth 100000 in
set_option maxHeartbeats 4000000 in
theorem t_X7_degreeOf_0 {l : Launch} {G : Gx} {P : Int32 → Mem → Prop} (hG : Mn G) (a1 : Int32) (mem : Mem)
    (h : XI l M_X7_degreeOf G P mem 4 [(0, .ref (gA G 327)), (1, .int a1), (2, .int 0), (3, .int 0)] []) :
    XI l M_X7_degreeOf G P mem 0 [(0, .ref (gA G 327)), (1, .int a1)] [] := by
  refine x_iconst (pc := 0) (v := 0) dX7_degreeOf_0 (by decide) ?_
  refine x_istore_n (pc := 1) dX7_degreeOf_1 rfl (by decide) rfl ?_
  refine x_iconst (pc := 2) (v := 0) dX7_degreeOf_2 (by decide) ?_
  refine x_istore_n (pc := 3) dX7_degreeOf_3 rfl (by decide) rfl ?_
  exact x_sub [2, 3, 1, 0] rfl h
set_option maxRecDepth 100000 in
set_option maxHeartbeats 4000000 in
theorem t_X7_degreeOf_4 {l : Launch} {G : Gx} {P : Int32 → Mem → Prop} (hG : Mn G) (a1 : Int32) (a2 : Int32) (a3 : Int32) (mem : Mem)
    (h : (12 ≤ a3 → (P a2 mem)) ∧ (¬ 12 ≤ a3 → (vp_in ((12 * a1) + a3) 144 ∧ (((mem 339 ((12 * a1) + a3).toNatClampNeg) ≤ 0 → (XI l M_X7_degreeOf G P mem 4 [(0, .ref (gA G 327)), (1, .int a1), (2, .int (a2 + 0)), (3, .int (a3 + 1))] [])) ∧ (¬ (mem 339 ((12 * a1) + a3).toNatClampNeg) ≤ 0 → (XI l M_X7_degreeOf G P mem 4 [(0, .ref (gA G 327)), (1, .int a1), (2, .int (a2 + 1)), (3, .int (a3 + 1))] [])))))) :
    XI l M_X7_degreeOf G P mem 4 [(0, .ref (gA G 327)), (1, .int a1), (2, .int a2), (3, .int a3)] [] := by
  refine x_iload_n (pc := 4) dX7_degreeOf_4 3 rfl rfl ?_
  refine x_bipush (pc := 5) (v := 12) dX7_degreeOf_5 (by decide) ?_
  refine x_icmp_ge (pc := 7) (tgt := 38) dX7_degreeOf_7 (by decide) (fun c1 => ?_) (fun c1 => ?_)
  · have h := h.1 c1
    refine x_iload_n (pc := 38) dX7_degreeOf_38 2 rfl rfl ?_
    exact x_endI (pc := 39) dX7_degreeOf_39 rfl h
  · have h := h.2 c1
    refine x_iload_n (pc := 10) dX7_degreeOf_10 2 rfl rfl ?_
    refine x_aload_n (pc := 11) dX7_degreeOf_11 0 rfl rfl ?_
    refine x_get (pc := 12) 327 18 dX7_degreeOf_12 (mK hG (by decide)) (mc_327 hG _) rfl inX7 (by decide) tb_729 rfl rfl ?_
    refine x_bipush (pc := 15) (v := 12) dX7_degreeOf_15 (by decide) ?_
    refine x_iload_n (pc := 17) dX7_degreeOf_17 1 rfl rfl ?_
    refine x_imul (pc := 18) dX7_degreeOf_18 ?_
    refine x_iload_n (pc := 19) dX7_degreeOf_19 3 rfl rfl ?_
    refine x_iadd (pc := 20) dX7_degreeOf_20 ?_
    have n2 := h.1
    refine x_iald (pc := 21) 339 dX7_degreeOf_21 (mK hG (by decide)) (mc_339 hG _) n2 ?_
    have h := h.2
    refine x_if_le (pc := 22) (tgt := 29) dX7_degreeOf_22 (by decide) (fun c3 => ?_) (fun c3 => ?_)
    · have h := h.1 c3
      refine x_iconst (pc := 29) (v := 0) dX7_degreeOf_29 (by decide) ?_
      refine x_iadd (pc := 30) dX7_degreeOf_30 ?_
      refine x_istore_n (pc := 31) dX7_degreeOf_31 rfl (by decide) rfl ?_
      refine x_iinc (pc := 32) (v := (a3 + 1)) dX7_degreeOf_32 (k := 3) rfl rfl (by decide) rfl ?_
      refine x_goto (pc := 35) (tgt := 4) dX7_degreeOf_35 (by decide) ?_
      exact x_sub [2, 3, 1, 0] rfl h
    · have h := h.2 c3
      refine x_iconst (pc := 25) (v := 1) dX7_degreeOf_25 (by decide) ?_
      refine x_goto (pc := 26) (tgt := 30) dX7_degreeOf_26 (by decide) ?_
      refine x_iadd (pc := 30) dX7_degreeOf_30 ?_
      refine x_istore_n (pc := 31) dX7_degreeOf_31 rfl (by decide) rfl ?_
      refine x_iinc (pc := 32) (v := (a3 + 1)) dX7_degreeOf_32 (k := 3) rfl rfl (by decide) rfl ?_
      refine x_goto (pc := 35) (tgt := 4) dX7_degreeOf_35 (by decide) ?_
      exact x_sub [2, 3, 1, 0] rfl h
set_option maxRecDepth 100000 in
set_option maxHeartbeats 4000000 in
theorem t_X7_removeVertex_0 {l : Launch} {G : Gx} {P : Mem → Prop} (hG : Mn G) (a1 : Int32) (a2 : Int32) (mem : Mem)
    (h : vp_in a1 12 ∧ (vp_in a1 12 ∧ (XV l M_X7_removeVertex G P (wr (wr mem 340 a1.toNatClampNeg 0) 342 a1.toNatClampNeg a2) 16 [(0, .ref (gA G 327)), (1, .int a1), (3, .int 0)] []))) :
    XV l M_X7_removeVertex G P mem 0 [(0, .ref (gA G 327)), (1, .int a1), (2, .int a2)] [] := by
  refine x_aload_n (pc := 0) dX7_removeVertex_0 0 rfl rfl ?_
  refine x_get (pc := 1) 327 19 dX7_removeVertex_1 (mK hG (by decide)) (mc_327 hG _) rfl inX7 (by decide) tb_730 rfl rfl ?_
  refine x_iload_n (pc := 4) dX7_removeVertex_4 1 rfl rfl ?_
  refine x_iconst (pc := 5) (v := 0) dX7_removeVertex_5 (by decide) ?_
  have n1 := h.1
  have h := h.2
  refine x_zast (pc := 6) 340 dX7_removeVertex_6 (mK hG (by decide)) (mc_340 hG) n1 (Or.inl rfl) ?_
  refine x_aload_n (pc := 7) dX7_removeVertex_7 0 rfl rfl ?_
  refine x_get (pc := 8) 327 21 dX7_removeVertex_8 (mK hG (by decide)) (mc_327 hG _) rfl inX7 (by decide) tb_732 rfl rfl ?_
  refine x_iload_n (pc := 11) dX7_removeVertex_11 1 rfl rfl ?_
  refine x_iload_n (pc := 12) dX7_removeVertex_12 2 rfl rfl ?_
  have n2 := h.1
  have h := h.2
  refine x_iast (pc := 13) 342 dX7_removeVertex_13 (mK hG (by decide)) (mc_342 hG) n2 ?_
  refine x_iconst (pc := 14) (v := 0) dX7_removeVertex_14 (by decide) ?_
  refine x_istore_n (pc := 15) dX7_removeVertex_15 rfl (by decide) rfl ?_
  exact x_sub [1, 2, 0] rfl h
set_option maxRecDepth 100000 in
set_option maxHeartbeats 4000000 in
theorem t_X7_removeVertex_16 {l : Launch} {G : Gx} {P : Mem → Prop} (hG : Mn G) (a1 : Int32) (a3 : Int32) (mem : Mem)
    (h : (12 ≤ a3 → (P mem)) ∧ (¬ 12 ≤ a3 → (vp_in ((12 * a1) + a3) 144 ∧ (vp_in ((12 * a3) + a1) 144 ∧ (XV l M_X7_removeVertex G P (wr (wr mem 339 (((12 * a1) + a3).toNatClampNeg) 0) 339 (((12 * a3) + a1).toNatClampNeg) 0) 16 [(0, .ref (gA G 327)), (1, .int a1), (3, .int (a3 + 1))] []))))) :
    XV l M_X7_removeVertex G P mem 16 [(0, .ref (gA G 327)), (1, .int a1), (3, .int a3)] [] := by
  refine x_iload_n (pc := 16) dX7_removeVertex_16 2 rfl rfl ?_
  refine x_bipush (pc := 17) (v := 12) dX7_removeVertex_17 (by decide) ?_
  refine x_icmp_ge (pc := 19) (tgt := 52) dX7_removeVertex_19 (by decide) (fun c1 => ?_) (fun c1 => ?_)
  · have h := h.1 c1
    exact x_endV (pc := 52) dX7_removeVertex_52 rfl h
  · have h := h.2 c1
    refine x_aload_n (pc := 22) dX7_removeVertex_22 0 rfl rfl ?_
    refine x_get (pc := 23) 327 18 dX7_removeVertex_23 (mK hG (by decide)) (mc_327 hG _) rfl inX7 (by decide) tb_729 rfl rfl ?_
    refine x_bipush (pc := 26) (v := 12) dX7_removeVertex_26 (by decide) ?_
    refine x_iload_n (pc := 28) dX7_removeVertex_28 1 rfl rfl ?_
    refine x_imul (pc := 29) dX7_removeVertex_29 ?_
    refine x_iload_n (pc := 30) dX7_removeVertex_30 2 rfl rfl ?_
    refine x_iadd (pc := 31) dX7_removeVertex_31 ?_
    refine x_iconst (pc := 32) (v := 0) dX7_removeVertex_32 (by decide) ?_
    have n2 := h.1
    have h := h.2
    refine x_iast (pc := 33) 339 dX7_removeVertex_33 (mK hG (by decide)) (mc_339 hG) n2 ?_
    refine x_aload_n (pc := 34) dX7_removeVertex_34 0 rfl rfl ?_
    refine x_get (pc := 35) 327 18 dX7_removeVertex_35 (mK hG (by decide)) (mc_327 hG _) rfl inX7 (by decide) tb_729 rfl rfl ?_
    refine x_bipush (pc := 38) (v := 12) dX7_removeVertex_38 (by decide) ?_
    refine x_iload_n (pc := 40) dX7_removeVertex_40 2 rfl rfl ?_
    refine x_imul (pc := 41) dX7_removeVertex_41 ?_
    refine x_iload_n (pc := 42) dX7_removeVertex_42 1 rfl rfl ?_
    refine x_iadd (pc := 43) dX7_removeVertex_43 ?_
    refine x_iconst (pc := 44) (v := 0) dX7_removeVertex_44 (by decide) ?_
    have n3 := h.1
    have h := h.2
    refine x_iast (pc := 45) 339 dX7_removeVertex_45 (mK hG (by decide)) (mc_339 hG) n3 ?_
    refine x_iinc (pc := 46) (v := (a3 + 1)) dX7_removeVertex_46 (k := 2) rfl rfl (by decide) rfl ?_
    refine x_goto (pc := 49) (tgt := 16) dX7_removeVertex_49 (by decide) ?_
    exact x_sub [1, 2, 0] rfl h
set_option maxRecDepth 100000 in
set_option maxHeartbeats 4000000 in
theorem t_X7_neighbour_0 {l : Launch} {G : Gx} {P : Int32 → Mem → Prop} (hG : Mn G) (a1 : Int32) (a2 : Int32) (mem : Mem)
    (h : XI l M_X7_neighbour G P mem 4 [(0, .ref (gA G 327)), (1, .int a1), (3, .int (a2 + 1))] []) :
    XI l M_X7_neighbour G P mem 0 [(0, .ref (gA G 327)), (1, .int a1), (2, .int a2)] [] := by
  refine x_iload_n (pc := 0) dX7_neighbour_0 2 rfl rfl ?_
  refine x_iconst (pc := 1) (v := 1) dX7_neighbour_1 (by decide) ?_
  refine x_iadd (pc := 2) dX7_neighbour_2 ?_
  refine x_istore_n (pc := 3) dX7_neighbour_3 rfl (by decide) rfl ?_
  exact x_sub [1, 2, 0] rfl h
set_option maxRecDepth 100000 in
set_option maxHeartbeats 4000000 in
theorem t_X7_neighbour_4 {l : Launch} {G : Gx} {P : Int32 → Mem → Prop} (hG : Mn G) (a1 : Int32) (a3 : Int32) (mem : Mem)
    (h : vp_in ((12 * a1) + a3) 144 ∧ ((¬ (mem 339 ((12 * a1) + a3).toNatClampNeg) = 0 → (P a3 mem)) ∧ ((mem 339 ((12 * a1) + a3).toNatClampNeg) = 0 → (XI l M_X7_neighbour G P mem 4 [(0, .ref (gA G 327)), (1, .int a1), (3, .int (a3 + 1))] [])))) :
    XI l M_X7_neighbour G P mem 4 [(0, .ref (gA G 327)), (1, .int a1), (3, .int a3)] [] := by
  refine x_aload_n (pc := 4) dX7_neighbour_4 0 rfl rfl ?_
  refine x_get (pc := 5) 327 18 dX7_neighbour_5 (mK hG (by decide)) (mc_327 hG _) rfl inX7 (by decide) tb_729 rfl rfl ?_
  refine x_bipush (pc := 8) (v := 12) dX7_neighbour_8 (by decide) ?_
  refine x_iload_n (pc := 10) dX7_neighbour_10 1 rfl rfl ?_
  refine x_imul (pc := 11) dX7_neighbour_11 ?_
  refine x_iload_n (pc := 12) dX7_neighbour_12 2 rfl rfl ?_
  refine x_iadd (pc := 13) dX7_neighbour_13 ?_
  have n1 := h.1
  refine x_iald (pc := 14) 339 dX7_neighbour_14 (mK hG (by decide)) (mc_339 hG _) n1 ?_
  have h := h.2
  refine x_if_ne (pc := 15) (tgt := 24) dX7_neighbour_15 (by decide) (fun c2 => ?_) (fun c2 => ?_)
  · have h := h.1 c2
    refine x_iload_n (pc := 24) dX7_neighbour_24 2 rfl rfl ?_
    exact x_endI (pc := 25) dX7_neighbour_25 rfl h
  · have h := h.2 c2
    refine x_iinc (pc := 18) (v := (a3 + 1)) dX7_neighbour_18 (k := 2) rfl rfl (by decide) rfl ?_
    refine x_goto (pc := 21) (tgt := 4) dX7_neighbour_21 (by decide) ?_
    exact x_sub [1, 2, 0] rfl h
set_option maxRecDepth 100000 in
set_option maxHeartbeats 4000000 in
theorem t_X7_many_0 {l : Launch} {G : Gx} {P : Int32 → Mem → Prop} (hG : Mn G)  (mem : Mem)
    (h : XI l M_X7_many G P mem 4 [(0, .ref (gA G 327)), (1, .int 0), (2, .int 0)] []) :
    XI l M_X7_many G P mem 0 [(0, .ref (gA G 327))] [] := by
  refine x_iconst (pc := 0) (v := 0) dX7_many_0 (by decide) ?_
  refine x_istore_n (pc := 1) dX7_many_1 rfl (by decide) rfl ?_
  refine x_iconst (pc := 2) (v := 0) dX7_many_2 (by decide) ?_
  refine x_istore_n (pc := 3) dX7_many_3 rfl (by decide) rfl ?_
  exact x_sub [2, 1, 0] rfl h
set_option maxRecDepth 100000 in
set_option maxHeartbeats 4000000 in
theorem t_X7_many_4 {l : Launch} {G : Gx} {P : Int32 → Mem → Prop} (hG : Mn G) (a1 : Int32) (a2 : Int32) (mem : Mem)
    (h : (12 ≤ a2 → (P a1 mem)) ∧ (¬ 12 ≤ a2 → (vp_in a2 12 ∧ (((mem 340 a2.toNatClampNeg) = 0 → (XI l M_X7_many G P mem 4 [(0, .ref (gA G 327)), (1, .int (a1 + 0)), (2, .int (a2 + 1))] [])) ∧ (¬ (mem 340 a2.toNatClampNeg) = 0 → (XI l M_X7_many G P mem 4 [(0, .ref (gA G 327)), (1, .int (a1 + 1)), (2, .int (a2 + 1))] [])))))) :
    XI l M_X7_many G P mem 4 [(0, .ref (gA G 327)), (1, .int a1), (2, .int a2)] [] := by
  refine x_iload_n (pc := 4) dX7_many_4 2 rfl rfl ?_
  refine x_bipush (pc := 5) (v := 12) dX7_many_5 (by decide) ?_
  refine x_icmp_ge (pc := 7) (tgt := 33) dX7_many_7 (by decide) (fun c1 => ?_) (fun c1 => ?_)
  · have h := h.1 c1
    refine x_iload_n (pc := 33) dX7_many_33 1 rfl rfl ?_
    exact x_endI (pc := 34) dX7_many_34 rfl h
  · have h := h.2 c1
    refine x_iload_n (pc := 10) dX7_many_10 1 rfl rfl ?_
    refine x_aload_n (pc := 11) dX7_many_11 0 rfl rfl ?_
    refine x_get (pc := 12) 327 19 dX7_many_12 (mK hG (by decide)) (mc_327 hG _) rfl inX7 (by decide) tb_730 rfl rfl ?_
    refine x_iload_n (pc := 15) dX7_many_15 2 rfl rfl ?_
    have n2 := h.1
    refine x_zald (pc := 16) 340 dX7_many_16 (mK hG (by decide)) (mc_340 hG _) n2 ?_
    have h := h.2
    refine x_if_eq (pc := 17) (tgt := 24) dX7_many_17 (by decide) (fun c3 => ?_) (fun c3 => ?_)
    · have h := h.1 c3
      refine x_iconst (pc := 24) (v := 0) dX7_many_24 (by decide) ?_
      refine x_iadd (pc := 25) dX7_many_25 ?_
      refine x_istore_n (pc := 26) dX7_many_26 rfl (by decide) rfl ?_
      refine x_iinc (pc := 27) (v := (a2 + 1)) dX7_many_27 (k := 2) rfl rfl (by decide) rfl ?_
      refine x_goto (pc := 30) (tgt := 4) dX7_many_30 (by decide) ?_
      exact x_sub [2, 1, 0] rfl h
    · have h := h.2 c3
      refine x_iconst (pc := 20) (v := 1) dX7_many_20 (by decide) ?_
      refine x_goto (pc := 21) (tgt := 25) dX7_many_21 (by decide) ?_
      refine x_iadd (pc := 25) dX7_many_25 ?_
      refine x_istore_n (pc := 26) dX7_many_26 rfl (by decide) rfl ?_
      refine x_iinc (pc := 27) (v := (a2 + 1)) dX7_many_27 (k := 2) rfl rfl (by decide) rfl ?_
      refine x_goto (pc := 30) (tgt := 4) dX7_many_30 (by decide) ?_
      exact x_sub [2, 1, 0] rfl h
set_option maxRecDepth 100000 in
set_option maxHeartbeats 4000000 in
theorem t_X7_rake_0 {l : Launch} {G : Gx} {P : Mem → Prop} (hG : Mn G) (a1 : Int32) (mem : Mem)
    (h : ∃ Q1 : Int32 → Mem → Prop, CtI l M_X7_many G [.ref (gA G 327)] mem Q1 ∧ ∀ (r3 : Int32) (m4 : Mem), Q1 r3 m4 → ((¬ r3 = 2 → (XV l M_X7_rake G P m4 19 [(0, .ref (gA G 327)), (1, .int a1), (2, .int 0), (3, .int 1), (4, .int 0)] [])) ∧ (r3 = 2 → (XV l M_X7_rake G P m4 19 [(0, .ref (gA G 327)), (1, .int a1), (2, .int 1), (3, .int 1), (4, .int 0)] [])))) :
    XV l M_X7_rake G P mem 0 [(0, .ref (gA G 327)), (1, .int a1)] [] := by
  refine x_aload_n (pc := 0) dX7_rake_0 0 rfl rfl ?_
  obtain ⟨Q1, hc2, h⟩ := h
  refine x_callVI (pc := 1) 327 hc2 ok_X7_many dX7_rake_1 tb_957 ⟨⟨rfl, rfl⟩, ⟨by decide, by decide⟩, by decide, by decide⟩ (mK hG (by decide)) (mc_327 hG _) rfl (As := []) rfl rfl (Nat.le_of_ble_eq_true rfl) (fun r3 m4 q5 => ?_)
  have h := h r3 m4 q5
  refine x_iconst (pc := 4) (v := 2) dX7_rake_4 (by decide) ?_
  refine x_icmp_ne (pc := 5) (tgt := 12) dX7_rake_5 (by decide) (fun c6 => ?_) (fun c6 => ?_)
  · have h := h.1 c6
    refine x_iconst (pc := 12) (v := 0) dX7_rake_12 (by decide) ?_
    refine x_istore_n (pc := 13) dX7_rake_13 rfl (by decide) rfl ?_
    refine x_iconst (pc := 14) (v := 1) dX7_rake_14 (by decide) ?_
    refine x_istore_n (pc := 15) dX7_rake_15 rfl (by decide) rfl ?_
    refine x_iconst (pc := 16) (v := 0) dX7_rake_16 (by decide) ?_
    refine x_istore (pc := 17) dX7_rake_17 (by decide) rfl ?_
    exact x_sub [3, 4, 2, 1, 0] rfl h
  · have h := h.2 c6
    refine x_iconst (pc := 8) (v := 1) dX7_rake_8 (by decide) ?_
    refine x_goto (pc := 9) (tgt := 13) dX7_rake_9 (by decide) ?_
    refine x_istore_n (pc := 13) dX7_rake_13 rfl (by decide) rfl ?_
    refine x_iconst (pc := 14) (v := 1) dX7_rake_14 (by decide) ?_
    refine x_istore_n (pc := 15) dX7_rake_15 rfl (by decide) rfl ?_
    refine x_iconst (pc := 16) (v := 0) dX7_rake_16 (by decide) ?_
    refine x_istore (pc := 17) dX7_rake_17 (by decide) rfl ?_
    exact x_sub [3, 4, 2, 1, 0] rfl h
set_option maxRecDepth 100000 in
set_option maxHeartbeats 4000000 in
theorem t_X7_rake_19 {l : Launch} {G : Gx} {P : Mem → Prop} (hG : Mn G) (a1 : Int32) (a2 : Int32) (a3 : Int32) (a4 : Int32) (mem : Mem)
    (h : (12 ≤ a4 → (XV l M_X7_rake G P mem 95 [(0, .ref (gA G 327)), (1, .int a1), (4, .int 0)] [])) ∧ (¬ 12 ≤ a4 → (vp_in a4 12 ∧ (((mem 340 a4.toNatClampNeg) = 0 → (vp_in a4 12 ∧ (vp_in a4 12 ∧ ((((wr mem 341 a4.toNatClampNeg 0) 341 a4.toNatClampNeg) = 0 → (XV l M_X7_rake G P (wr mem 341 a4.toNatClampNeg 0) 19 [(0, .ref (gA G 327)), (1, .int a1), (2, .int a2), (3, .int a3), (4, .int (a4 + 1))] [])) ∧ (¬ ((wr mem 341 a4.toNatClampNeg 0) 341 a4.toNatClampNeg) = 0 → ((a2 = 0 → (XV l M_X7_rake G P (wr mem 341 a4.toNatClampNeg 0) 19 [(0, .ref (gA G 327)), (1, .int a1), (2, .int a2), (3, .int a3), (4, .int (a4 + 1))] [])) ∧ (¬ a2 = 0 → ((a3 = 0 → (XV l M_X7_rake G P (wr mem 341 a4.toNatClampNeg 0) 19 [(0, .ref (gA G 327)), (1, .int a1), (2, .int a2), (3, .int a3), (4, .int (a4 + 1))] [])) ∧ (¬ a3 = 0 → (vp_in a4 12 ∧ (XV l M_X7_rake G P (wr (wr mem 341 a4.toNatClampNeg 0) 341 a4.toNatClampNeg 0) 19 [(0, .ref (gA G 327)), (1, .int a1), (2, .int a2), (3, .int 0), (4, .int (a4 + 1))] []))))))))))) ∧ (¬ (mem 340 a4.toNatClampNeg) = 0 → (∃ Q10 : Int32 → Mem → Prop, CtI l M_X7_degreeOf G [.ref (gA G 327), .int a4] mem Q10 ∧ ∀ (r12 : Int32) (m13 : Mem), Q10 r12 m13 → ((¬ r12 = 1 → (vp_in a4 12 ∧ (vp_in a4 12 ∧ ((((wr m13 341 a4.toNatClampNeg 0) 341 a4.toNatClampNeg) = 0 → (XV l M_X7_rake G P (wr m13 341 a4.toNatClampNeg 0) 19 [(0, .ref (gA G 327)), (1, .int a1), (2, .int a2), (3, .int a3), (4, .int (a4 + 1))] [])) ∧ (¬ ((wr m13 341 a4.toNatClampNeg 0) 341 a4.toNatClampNeg) = 0 → ((a2 = 0 → (XV l M_X7_rake G P (wr m13 341 a4.toNatClampNeg 0) 19 [(0, .ref (gA G 327)), (1, .int a1), (2, .int a2), (3, .int a3), (4, .int (a4 + 1))] [])) ∧ (¬ a2 = 0 → ((a3 = 0 → (XV l M_X7_rake G P (wr m13 341 a4.toNatClampNeg 0) 19 [(0, .ref (gA G 327)), (1, .int a1), (2, .int a2), (3, .int a3), (4, .int (a4 + 1))] [])) ∧ (¬ a3 = 0 → (vp_in a4 12 ∧ (XV l M_X7_rake G P (wr (wr m13 341 a4.toNatClampNeg 0) 341 a4.toNatClampNeg 0) 19 [(0, .ref (gA G 327)), (1, .int a1), (2, .int a2), (3, .int 0), (4, .int (a4 + 1))] []))))))))))) ∧ (r12 = 1 → (vp_in a4 12 ∧ (vp_in a4 12 ∧ ((((wr m13 341 a4.toNatClampNeg 1) 341 a4.toNatClampNeg) = 0 → (XV l M_X7_rake G P (wr m13 341 a4.toNatClampNeg 1) 19 [(0, .ref (gA G 327)), (1, .int a1), (2, .int a2), (3, .int a3), (4, .int (a4 + 1))] [])) ∧ (¬ ((wr m13 341 a4.toNatClampNeg 1) 341 a4.toNatClampNeg) = 0 → ((a2 = 0 → (XV l M_X7_rake G P (wr m13 341 a4.toNatClampNeg 1) 19 [(0, .ref (gA G 327)), (1, .int a1), (2, .int a2), (3, .int a3), (4, .int (a4 + 1))] [])) ∧ (¬ a2 = 0 → ((a3 = 0 → (XV l M_X7_rake G P (wr m13 341 a4.toNatClampNeg 1) 19 [(0, .ref (gA G 327)), (1, .int a1), (2, .int a2), (3, .int a3), (4, .int (a4 + 1))] [])) ∧ (¬ a3 = 0 → (vp_in a4 12 ∧ (XV l M_X7_rake G P (wr (wr m13 341 a4.toNatClampNeg 1) 341 a4.toNatClampNeg 0) 19 [(0, .ref (gA G 327)), (1, .int a1), (2, .int a2), (3, .int 0), (4, .int (a4 + 1))] [])))))))))))))))))) :
    XV l M_X7_rake G P mem 19 [(0, .ref (gA G 327)), (1, .int a1), (2, .int a2), (3, .int a3), (4, .int a4)] [] := by
  refine x_iload (pc := 19) dX7_rake_19 4 rfl ?_
  refine x_bipush (pc := 21) (v := 12) dX7_rake_21 (by decide) ?_
  refine x_icmp_ge (pc := 23) (tgt := 92) dX7_rake_23 (by decide) (fun c1 => ?_) (fun c1 => ?_)
  · have h := h.1 c1
    refine x_iconst (pc := 92) (v := 0) dX7_rake_92 (by decide) ?_
    refine x_istore (pc := 93) dX7_rake_93 (by decide) rfl ?_
    exact x_sub [1, 2, 0] rfl h
  · have h := h.2 c1
    refine x_aload_n (pc := 26) dX7_rake_26 0 rfl rfl ?_
    refine x_get (pc := 27) 327 20 dX7_rake_27 (mK hG (by decide)) (mc_327 hG _) rfl inX7 (by decide) tb_731 rfl rfl ?_
    refine x_iload (pc := 30) dX7_rake_30 4 rfl ?_
    refine x_aload_n (pc := 32) dX7_rake_32 0 rfl rfl ?_
    refine x_get (pc := 33) 327 19 dX7_rake_33 (mK hG (by decide)) (mc_327 hG _) rfl inX7 (by decide) tb_730 rfl rfl ?_
    refine x_iload (pc := 36) dX7_rake_36 4 rfl ?_
    have n2 := h.1
    refine x_zald (pc := 38) 340 dX7_rake_38 (mK hG (by decide)) (mc_340 hG _) n2 ?_
    have h := h.2
    refine x_if_eq (pc := 39) (tgt := 56) dX7_rake_39 (by decide) (fun c3 => ?_) (fun c3 => ?_)
    · have h := h.1 c3
      refine x_iconst (pc := 56) (v := 0) dX7_rake_56 (by decide) ?_
      have n4 := h.1
      have h := h.2
      refine x_zast (pc := 57) 341 dX7_rake_57 (mK hG (by decide)) (mc_341 hG) n4 (Or.inl rfl) ?_
      refine x_aload_n (pc := 58) dX7_rake_58 0 rfl rfl ?_
      refine x_get (pc := 59) 327 20 dX7_rake_59 (mK hG (by decide)) (mc_327 hG _) rfl inX7 (by decide) tb_731 rfl rfl ?_
      refine x_iload (pc := 62) dX7_rake_62 4 rfl ?_
      have n5 := h.1
      refine x_zald (pc := 64) 341 dX7_rake_64 (mK hG (by decide)) (mc_341 hG _) n5 ?_
      have h := h.2
      refine x_if_eq (pc := 65) (tgt := 86) dX7_rake_65 (by decide) (fun c6 => ?_) (fun c6 => ?_)
      · have h := h.1 c6
        refine x_iinc (pc := 86) (v := (a4 + 1)) dX7_rake_86 (k := 4) rfl rfl (by decide) rfl ?_
        refine x_goto (pc := 89) (tgt := 19) dX7_rake_89 (by decide) ?_
        exact x_sub [1, 2, 3, 4, 0] rfl h
      · have h := h.2 c6
        refine x_iload_n (pc := 68) dX7_rake_68 2 rfl rfl ?_
        refine x_if_eq (pc := 69) (tgt := 86) dX7_rake_69 (by decide) (fun c7 => ?_) (fun c7 => ?_)
        · have h := h.1 c7
          refine x_iinc (pc := 86) (v := (a4 + 1)) dX7_rake_86 (k := 4) rfl rfl (by decide) rfl ?_
          refine x_goto (pc := 89) (tgt := 19) dX7_rake_89 (by decide) ?_
          exact x_sub [1, 2, 3, 4, 0] rfl h
        · have h := h.2 c7
          refine x_iload_n (pc := 72) dX7_rake_72 3 rfl rfl ?_
          refine x_if_eq (pc := 73) (tgt := 86) dX7_rake_73 (by decide) (fun c8 => ?_) (fun c8 => ?_)
          · have h := h.1 c8
            refine x_iinc (pc := 86) (v := (a4 + 1)) dX7_rake_86 (k := 4) rfl rfl (by decide) rfl ?_
            refine x_goto (pc := 89) (tgt := 19) dX7_rake_89 (by decide) ?_
            exact x_sub [1, 2, 3, 4, 0] rfl h
          · have h := h.2 c8
            refine x_iconst (pc := 76) (v := 0) dX7_rake_76 (by decide) ?_
            refine x_istore_n (pc := 77) dX7_rake_77 rfl (by decide) rfl ?_
            refine x_aload_n (pc := 78) dX7_rake_78 1 rfl rfl ?_
            refine x_get (pc := 79) 327 20 dX7_rake_79 (mK hG (by decide)) (mc_327 hG _) rfl inX7 (by decide) tb_731 rfl rfl ?_
            refine x_iload (pc := 82) dX7_rake_82 4 rfl ?_
            refine x_iconst (pc := 84) (v := 0) dX7_rake_84 (by decide) ?_
            have n9 := h.1
            have h := h.2
            refine x_zast (pc := 85) 341 dX7_rake_85 (mK hG (by decide)) (mc_341 hG) n9 (Or.inl rfl) ?_
            refine x_iinc (pc := 86) (v := (a4 + 1)) dX7_rake_86 (k := 4) rfl rfl (by decide) rfl ?_
            refine x_goto (pc := 89) (tgt := 19) dX7_rake_89 (by decide) ?_
            exact x_sub [2, 3, 4, 1, 0] rfl h
    · have h := h.2 c3
      refine x_aload_n (pc := 42) dX7_rake_42 0 rfl rfl ?_
      refine x_iload (pc := 43) dX7_rake_43 4 rfl ?_
      obtain ⟨Q10, hc11, h⟩ := h
      refine x_callVI (pc := 45) 327 hc11 ok_X7_degreeOf dX7_rake_45 tb_965 ⟨⟨rfl, rfl⟩, ⟨by decide, by decide⟩, by decide, by decide⟩ (mK hG (by decide)) (mc_327 hG _) rfl (As := [.int a4]) rfl rfl (Nat.le_of_ble_eq_true rfl) (fun r12 m13 q14 => ?_)
      have h := h r12 m13 q14
      refine x_iconst (pc := 48) (v := 1) dX7_rake_48 (by decide) ?_
      refine x_icmp_ne (pc := 49) (tgt := 56) dX7_rake_49 (by decide) (fun c15 => ?_) (fun c15 => ?_)
      · have h := h.1 c15
        refine x_iconst (pc := 56) (v := 0) dX7_rake_56 (by decide) ?_
        have n16 := h.1
        have h := h.2
        refine x_zast (pc := 57) 341 dX7_rake_57 (mK hG (by decide)) (mc_341 hG) n16 (Or.inl rfl) ?_
        refine x_aload_n (pc := 58) dX7_rake_58 0 rfl rfl ?_
        refine x_get (pc := 59) 327 20 dX7_rake_59 (mK hG (by decide)) (mc_327 hG _) rfl inX7 (by decide) tb_731 rfl rfl ?_
        refine x_iload (pc := 62) dX7_rake_62 4 rfl ?_
        have n17 := h.1
        refine x_zald (pc := 64) 341 dX7_rake_64 (mK hG (by decide)) (mc_341 hG _) n17 ?_
        have h := h.2
        refine x_if_eq (pc := 65) (tgt := 86) dX7_rake_65 (by decide) (fun c18 => ?_) (fun c18 => ?_)
        · have h := h.1 c18
          refine x_iinc (pc := 86) (v := (a4 + 1)) dX7_rake_86 (k := 4) rfl rfl (by decide) rfl ?_
          refine x_goto (pc := 89) (tgt := 19) dX7_rake_89 (by decide) ?_
          exact x_sub [1, 2, 3, 4, 0] rfl h
        · have h := h.2 c18
          refine x_iload_n (pc := 68) dX7_rake_68 2 rfl rfl ?_
          refine x_if_eq (pc := 69) (tgt := 86) dX7_rake_69 (by decide) (fun c19 => ?_) (fun c19 => ?_)
          · have h := h.1 c19
            refine x_iinc (pc := 86) (v := (a4 + 1)) dX7_rake_86 (k := 4) rfl rfl (by decide) rfl ?_
            refine x_goto (pc := 89) (tgt := 19) dX7_rake_89 (by decide) ?_
            exact x_sub [1, 2, 3, 4, 0] rfl h
          · have h := h.2 c19
            refine x_iload_n (pc := 72) dX7_rake_72 3 rfl rfl ?_
            refine x_if_eq (pc := 73) (tgt := 86) dX7_rake_73 (by decide) (fun c20 => ?_) (fun c20 => ?_)
            · have h := h.1 c20
              refine x_iinc (pc := 86) (v := (a4 + 1)) dX7_rake_86 (k := 4) rfl rfl (by decide) rfl ?_
              refine x_goto (pc := 89) (tgt := 19) dX7_rake_89 (by decide) ?_
              exact x_sub [1, 2, 3, 4, 0] rfl h
            · have h := h.2 c20
              refine x_iconst (pc := 76) (v := 0) dX7_rake_76 (by decide) ?_
              refine x_istore_n (pc := 77) dX7_rake_77 rfl (by decide) rfl ?_
              refine x_aload_n (pc := 78) dX7_rake_78 1 rfl rfl ?_
              refine x_get (pc := 79) 327 20 dX7_rake_79 (mK hG (by decide)) (mc_327 hG _) rfl inX7 (by decide) tb_731 rfl rfl ?_
              refine x_iload (pc := 82) dX7_rake_82 4 rfl ?_
              refine x_iconst (pc := 84) (v := 0) dX7_rake_84 (by decide) ?_
              have n21 := h.1
              have h := h.2
              refine x_zast (pc := 85) 341 dX7_rake_85 (mK hG (by decide)) (mc_341 hG) n21 (Or.inl rfl) ?_
              refine x_iinc (pc := 86) (v := (a4 + 1)) dX7_rake_86 (k := 4) rfl rfl (by decide) rfl ?_
              refine x_goto (pc := 89) (tgt := 19) dX7_rake_89 (by decide) ?_
              exact x_sub [2, 3, 4, 1, 0] rfl h
      · have h := h.2 c15
        refine x_iconst (pc := 52) (v := 1) dX7_rake_52 (by decide) ?_
        refine x_goto (pc := 53) (tgt := 57) dX7_rake_53 (by decide) ?_
        have n22 := h.1
        have h := h.2
        refine x_zast (pc := 57) 341 dX7_rake_57 (mK hG (by decide)) (mc_341 hG) n22 (Or.inr rfl) ?_
        refine x_aload_n (pc := 58) dX7_rake_58 0 rfl rfl ?_
        refine x_get (pc := 59) 327 20 dX7_rake_59 (mK hG (by decide)) (mc_327 hG _) rfl inX7 (by decide) tb_731 rfl rfl ?_
        refine x_iload (pc := 62) dX7_rake_62 4 rfl ?_
        have n23 := h.1
        refine x_zald (pc := 64) 341 dX7_rake_64 (mK hG (by decide)) (mc_341 hG _) n23 ?_
        have h := h.2
        refine x_if_eq (pc := 65) (tgt := 86) dX7_rake_65 (by decide) (fun c24 => ?_) (fun c24 => ?_)
        · have h := h.1 c24
          refine x_iinc (pc := 86) (v := (a4 + 1)) dX7_rake_86 (k := 4) rfl rfl (by decide) rfl ?_
          refine x_goto (pc := 89) (tgt := 19) dX7_rake_89 (by decide) ?_
          exact x_sub [1, 2, 3, 4, 0] rfl h
        · have h := h.2 c24
          refine x_iload_n (pc := 68) dX7_rake_68 2 rfl rfl ?_
          refine x_if_eq (pc := 69) (tgt := 86) dX7_rake_69 (by decide) (fun c25 => ?_) (fun c25 => ?_)
          · have h := h.1 c25
            refine x_iinc (pc := 86) (v := (a4 + 1)) dX7_rake_86 (k := 4) rfl rfl (by decide) rfl ?_
            refine x_goto (pc := 89) (tgt := 19) dX7_rake_89 (by decide) ?_
            exact x_sub [1, 2, 3, 4, 0] rfl h
          · have h := h.2 c25
            refine x_iload_n (pc := 72) dX7_rake_72 3 rfl rfl ?_
            refine x_if_eq (pc := 73) (tgt := 86) dX7_rake_73 (by decide) (fun c26 => ?_) (fun c26 => ?_)
            · have h := h.1 c26
              refine x_iinc (pc := 86) (v := (a4 + 1)) dX7_rake_86 (k := 4) rfl rfl (by decide) rfl ?_
              refine x_goto (pc := 89) (tgt := 19) dX7_rake_89 (by decide) ?_
              exact x_sub [1, 2, 3, 4, 0] rfl h
            · have h := h.2 c26
              refine x_iconst (pc := 76) (v := 0) dX7_rake_76 (by decide) ?_
              refine x_istore_n (pc := 77) dX7_rake_77 rfl (by decide) rfl ?_
              refine x_aload_n (pc := 78) dX7_rake_78 1 rfl rfl ?_
              refine x_get (pc := 79) 327 20 dX7_rake_79 (mK hG (by decide)) (mc_327 hG _) rfl inX7 (by decide) tb_731 rfl rfl ?_
              refine x_iload (pc := 82) dX7_rake_82 4 rfl ?_
              refine x_iconst (pc := 84) (v := 0) dX7_rake_84 (by decide) ?_
              have n27 := h.1
              have h := h.2
              refine x_zast (pc := 85) 341 dX7_rake_85 (mK hG (by decide)) (mc_341 hG) n27 (Or.inl rfl) ?_
              refine x_iinc (pc := 86) (v := (a4 + 1)) dX7_rake_86 (k := 4) rfl rfl (by decide) rfl ?_
              refine x_goto (pc := 89) (tgt := 19) dX7_rake_89 (by decide) ?_
              exact x_sub [2, 3, 4, 1, 0] rfl h
set_option maxRecDepth 100000 in
set_option maxHeartbeats 4000000 in
theorem t_X7_rake_95 {l : Launch} {G : Gx} {P : Mem → Prop} (hG : Mn G) (a1 : Int32) (a4 : Int32) (mem : Mem)
    (h : (12 ≤ a4 → (P mem)) ∧ (¬ 12 ≤ a4 → (vp_in a4 12 ∧ (((mem 341 a4.toNatClampNeg) = 0 → (XV l M_X7_rake G P mem 95 [(0, .ref (gA G 327)), (1, .int a1), (4, .int (a4 + 1))] [])) ∧ (¬ (mem 341 a4.toNatClampNeg) = 0 → (∃ Q4 : Mem → Prop, CtV l M_X7_removeVertex G [.ref (gA G 327), .int a4, .int a1] mem Q4 ∧ ∀ m7 : Mem, Q4 m7 → (XV l M_X7_rake G P m7 95 [(0, .ref (gA G 327)), (1, .int a1), (4, .int (a4 + 1))] []))))))) :
    XV l M_X7_rake G P mem 95 [(0, .ref (gA G 327)), (1, .int a1), (4, .int a4)] [] := by
  refine x_iload (pc := 95) dX7_rake_95 2 rfl ?_
  refine x_bipush (pc := 97) (v := 12) dX7_rake_97 (by decide) ?_
  refine x_icmp_ge (pc := 99) (tgt := 125) dX7_rake_99 (by decide) (fun c1 => ?_) (fun c1 => ?_)
  · have h := h.1 c1
    exact x_endV (pc := 125) dX7_rake_125 rfl h
  · have h := h.2 c1
    refine x_aload_n (pc := 102) dX7_rake_102 0 rfl rfl ?_
    refine x_get (pc := 103) 327 20 dX7_rake_103 (mK hG (by decide)) (mc_327 hG _) rfl inX7 (by decide) tb_731 rfl rfl ?_
    refine x_iload (pc := 106) dX7_rake_106 2 rfl ?_
    have n2 := h.1
    refine x_zald (pc := 108) 341 dX7_rake_108 (mK hG (by decide)) (mc_341 hG _) n2 ?_
    have h := h.2
    refine x_if_eq (pc := 109) (tgt := 119) dX7_rake_109 (by decide) (fun c3 => ?_) (fun c3 => ?_)
    · have h := h.1 c3
      refine x_iinc (pc := 119) (v := (a4 + 1)) dX7_rake_119 (k := 2) rfl rfl (by decide) rfl ?_
      refine x_goto (pc := 122) (tgt := 95) dX7_rake_122 (by decide) ?_
      exact x_sub [1, 2, 0] rfl h
    · have h := h.2 c3
      refine x_aload_n (pc := 112) dX7_rake_112 0 rfl rfl ?_
      refine x_iload (pc := 113) dX7_rake_113 2 rfl ?_
      refine x_iload_n (pc := 115) dX7_rake_115 1 rfl rfl ?_
      obtain ⟨Q4, hc5, h⟩ := h
      refine x_callVV (pc := 116) 327 hc5 ok_X7_removeVertex dX7_rake_116 tb_969 ⟨⟨rfl, rfl⟩, ⟨by decide, by decide⟩, by decide, by decide⟩ (mK hG (by decide)) (mc_327 hG _) rfl (As := [.int a4, .int a1]) rfl rfl (Nat.le_of_ble_eq_true rfl) (fun m7 q8 => ?_)
      have h := h m7 q8
      refine x_iinc (pc := 119) (v := (a4 + 1)) dX7_rake_119 (k := 2) rfl rfl (by decide) rfl ?_
      refine x_goto (pc := 122) (tgt := 95) dX7_rake_122 (by decide) ?_
      exact x_sub [1, 2, 0] rfl h
set_option maxRecDepth 100000 in
set_option maxHeartbeats 4000000 in
theorem t_X7_compress_0 {l : Launch} {G : Gx} {P : Mem → Prop} (hG : Mn G) (a1 : Int32) (mem : Mem)
    (h : XV l M_X7_compress G P mem 2 [(0, .ref (gA G 327)), (1, .int a1), (2, .int 0)] []) :
    XV l M_X7_compress G P mem 0 [(0, .ref (gA G 327)), (1, .int a1)] [] := by
  refine x_iconst (pc := 0) (v := 0) dX7_compress_0 (by decide) ?_
  refine x_istore_n (pc := 1) dX7_compress_1 rfl (by decide) rfl ?_
  exact x_sub [1, 2, 0] rfl h
set_option maxRecDepth 100000 in
set_option maxHeartbeats 4000000 in
theorem t_X7_compress_2 {l : Launch} {G : Gx} {P : Mem → Prop} (hG : Mn G) (a1 : Int32) (a2 : Int32) (mem : Mem)
    (h : (144 ≤ a2 → (XV l M_X7_compress G P mem 37 [(0, .ref (gA G 327)), (1, .int a1), (2, .int 0)] [])) ∧ (¬ 144 ≤ a2 → (vp_in a2 144 ∧ (((mem 339 a2.toNatClampNeg) ≤ 0 → (vp_in a2 144 ∧ (XV l M_X7_compress G P (wr mem 339 a2.toNatClampNeg 0) 2 [(0, .ref (gA G 327)), (1, .int a1), (2, .int (a2 + 1))] []))) ∧ (¬ (mem 339 a2.toNatClampNeg) ≤ 0 → (vp_in a2 144 ∧ (XV l M_X7_compress G P (wr mem 339 a2.toNatClampNeg 1) 2 [(0, .ref (gA G 327)), (1, .int a1), (2, .int (a2 + 1))] []))))))) :
    XV l M_X7_compress G P mem 2 [(0, .ref (gA G 327)), (1, .int a1), (2, .int a2)] [] := by
  refine x_iload_n (pc := 2) dX7_compress_2 2 rfl rfl ?_
  refine x_sipush (pc := 3) (v := 144) dX7_compress_3 (by decide) ?_
  refine x_icmp_ge (pc := 6) (tgt := 35) dX7_compress_6 (by decide) (fun c1 => ?_) (fun c1 => ?_)
  · have h := h.1 c1
    refine x_iconst (pc := 35) (v := 0) dX7_compress_35 (by decide) ?_
    refine x_istore_n (pc := 36) dX7_compress_36 rfl (by decide) rfl ?_
    exact x_sub [1, 2, 0] rfl h
  · have h := h.2 c1
    refine x_aload_n (pc := 9) dX7_compress_9 0 rfl rfl ?_
    refine x_get (pc := 10) 327 18 dX7_compress_10 (mK hG (by decide)) (mc_327 hG _) rfl inX7 (by decide) tb_729 rfl rfl ?_
    refine x_iload_n (pc := 13) dX7_compress_13 2 rfl rfl ?_
    refine x_aload_n (pc := 14) dX7_compress_14 0 rfl rfl ?_
    refine x_get (pc := 15) 327 18 dX7_compress_15 (mK hG (by decide)) (mc_327 hG _) rfl inX7 (by decide) tb_729 rfl rfl ?_
    refine x_iload_n (pc := 18) dX7_compress_18 2 rfl rfl ?_
    have n2 := h.1
    refine x_iald (pc := 19) 339 dX7_compress_19 (mK hG (by decide)) (mc_339 hG _) n2 ?_
    have h := h.2
    refine x_if_le (pc := 20) (tgt := 27) dX7_compress_20 (by decide) (fun c3 => ?_) (fun c3 => ?_)
    · have h := h.1 c3
      refine x_iconst (pc := 27) (v := 0) dX7_compress_27 (by decide) ?_
      have n4 := h.1
      have h := h.2
      refine x_iast (pc := 28) 339 dX7_compress_28 (mK hG (by decide)) (mc_339 hG) n4 ?_
      refine x_iinc (pc := 29) (v := (a2 + 1)) dX7_compress_29 (k := 2) rfl rfl (by decide) rfl ?_
      refine x_goto (pc := 32) (tgt := 2) dX7_compress_32 (by decide) ?_
      exact x_sub [1, 2, 0] rfl h
    · have h := h.2 c3
      refine x_iconst (pc := 23) (v := 1) dX7_compress_23 (by decide) ?_
      refine x_goto (pc := 24) (tgt := 28) dX7_compress_24 (by decide) ?_
      have n5 := h.1
      have h := h.2
      refine x_iast (pc := 28) 339 dX7_compress_28 (mK hG (by decide)) (mc_339 hG) n5 ?_
      refine x_iinc (pc := 29) (v := (a2 + 1)) dX7_compress_29 (k := 2) rfl rfl (by decide) rfl ?_
      refine x_goto (pc := 32) (tgt := 2) dX7_compress_32 (by decide) ?_
      exact x_sub [1, 2, 0] rfl h
set_option maxRecDepth 100000 in
set_option maxHeartbeats 4000000 in
theorem t_X7_compress_37 {l : Launch} {G : Gx} {P : Mem → Prop} (hG : Mn G) (a1 : Int32) (a2 : Int32) (mem : Mem)
    (h : (12 ≤ a2 → (P mem)) ∧ (¬ 12 ≤ a2 → (vp_in a2 12 ∧ (((mem 340 a2.toNatClampNeg) = 0 → (XV l M_X7_compress G P mem 37 [(0, .ref (gA G 327)), (1, .int a1), (2, .int (a2 + 1))] [])) ∧ (¬ (mem 340 a2.toNatClampNeg) = 0 → (∃ Q4 : Int32 → Mem → Prop, CtI l M_X7_degreeOf G [.ref (gA G 327), .int a2] mem Q4 ∧ ∀ (r6 : Int32) (m7 : Mem), Q4 r6 m7 → ((¬ r6 = 2 → (XV l M_X7_compress G P m7 37 [(0, .ref (gA G 327)), (1, .int a1), (2, .int (a2 + 1))] [])) ∧ (r6 = 2 → (∃ Q10 : Int32 → Mem → Prop, CtI l M_X7_neighbour G [.ref (gA G 327), .int a2, .int (-1)] m7 Q10 ∧ ∀ (r12 : Int32) (m13 : Mem), Q10 r12 m13 → (∃ Q15 : Int32 → Mem → Prop, CtI l M_X7_neighbour G [.ref (gA G 327), .int a2, .int r12] m13 Q15 ∧ ∀ (r17 : Int32) (m18 : Mem), Q15 r17 m18 → (vp_in ((12 * a2) + r12) 144 ∧ ((¬ (m18 339 ((12 * a2) + r12).toNatClampNeg) = 1 → (XV l M_X7_compress G P m18 37 [(0, .ref (gA G 327)), (1, .int a1), (2, .int (a2 + 1))] [])) ∧ ((m18 339 ((12 * a2) + r12).toNatClampNeg) = 1 → (vp_in ((12 * a2) + r17) 144 ∧ ((¬ (m18 339 ((12 * a2) + r17).toNatClampNeg) = 1 → (XV l M_X7_compress G P m18 37 [(0, .ref (gA G 327)), (1, .int a1), (2, .int (a2 + 1))] [])) ∧ ((m18 339 ((12 * a2) + r17).toNatClampNeg) = 1 → (∃ Q24 : Mem → Prop, CtV l M_X7_removeVertex G [.ref (gA G 327), .int a2, .int a1] m18 Q24 ∧ ∀ m27 : Mem, Q24 m27 → (vp_in ((12 * r12) + r17) 144 ∧ (vp_in ((12 * r17) + r12) 144 ∧ (XV l M_X7_compress G P (wr (wr m27 339 (((12 * r12) + r17).toNatClampNeg) 2) 339 (((12 * r17) + r12).toNatClampNeg) 2) 37 [(0, .ref (gA G 327)), (1, .int a1), (2, .int (a2 + 1))] [])))))))))))))))))))) :
    XV l M_X7_compress G P mem 37 [(0, .ref (gA G 327)), (1, .int a1), (2, .int a2)] [] := by
  refine x_iload_n (pc := 37) dX7_compress_37 2 rfl rfl ?_
  refine x_bipush (pc := 38) (v := 12) dX7_compress_38 (by decide) ?_
  refine x_icmp_ge (pc := 40) (tgt := 145) dX7_compress_40 (by decide) (fun c1 => ?_) (fun c1 => ?_)
  · have h := h.1 c1
    exact x_endV (pc := 145) dX7_compress_145 rfl h
  · have h := h.2 c1
    refine x_aload_n (pc := 43) dX7_compress_43 0 rfl rfl ?_
    refine x_get (pc := 44) 327 19 dX7_compress_44 (mK hG (by decide)) (mc_327 hG _) rfl inX7 (by decide) tb_730 rfl rfl ?_
    refine x_iload_n (pc := 47) dX7_compress_47 2 rfl rfl ?_
    have n2 := h.1
    refine x_zald (pc := 48) 340 dX7_compress_48 (mK hG (by decide)) (mc_340 hG _) n2 ?_
    have h := h.2
    refine x_if_eq (pc := 49) (tgt := 139) dX7_compress_49 (by decide) (fun c3 => ?_) (fun c3 => ?_)
    · have h := h.1 c3
      refine x_iinc (pc := 139) (v := (a2 + 1)) dX7_compress_139 (k := 2) rfl rfl (by decide) rfl ?_
      refine x_goto (pc := 142) (tgt := 37) dX7_compress_142 (by decide) ?_
      exact x_sub [1, 2, 0] rfl h
    · have h := h.2 c3
      refine x_aload_n (pc := 52) dX7_compress_52 0 rfl rfl ?_
      refine x_iload_n (pc := 53) dX7_compress_53 2 rfl rfl ?_
      obtain ⟨Q4, hc5, h⟩ := h
      refine x_callVI (pc := 54) 327 hc5 ok_X7_degreeOf dX7_compress_54 tb_965 ⟨⟨rfl, rfl⟩, ⟨by decide, by decide⟩, by decide, by decide⟩ (mK hG (by decide)) (mc_327 hG _) rfl (As := [.int a2]) rfl rfl (Nat.le_of_ble_eq_true rfl) (fun r6 m7 q8 => ?_)
      have h := h r6 m7 q8
      refine x_iconst (pc := 57) (v := 2) dX7_compress_57 (by decide) ?_
      refine x_icmp_ne (pc := 58) (tgt := 139) dX7_compress_58 (by decide) (fun c9 => ?_) (fun c9 => ?_)
      · have h := h.1 c9
        refine x_iinc (pc := 139) (v := (a2 + 1)) dX7_compress_139 (k := 2) rfl rfl (by decide) rfl ?_
        refine x_goto (pc := 142) (tgt := 37) dX7_compress_142 (by decide) ?_
        exact x_sub [1, 2, 0] rfl h
      · have h := h.2 c9
        refine x_aload_n (pc := 61) dX7_compress_61 0 rfl rfl ?_
        refine x_iload_n (pc := 62) dX7_compress_62 2 rfl rfl ?_
        refine x_iconst (pc := 63) (v := (-1)) dX7_compress_63 (by decide) ?_
        obtain ⟨Q10, hc11, h⟩ := h
        refine x_callVI (pc := 64) 327 hc11 ok_X7_neighbour dX7_compress_64 tb_977 ⟨⟨rfl, rfl⟩, ⟨by decide, by decide⟩, by decide, by decide⟩ (mK hG (by decide)) (mc_327 hG _) rfl (As := [.int a2, .int (-1)]) rfl rfl (Nat.le_of_ble_eq_true rfl) (fun r12 m13 q14 => ?_)
        have h := h r12 m13 q14
        refine x_istore_n (pc := 67) dX7_compress_67 rfl (by decide) rfl ?_
        refine x_aload_n (pc := 68) dX7_compress_68 1 rfl rfl ?_
        refine x_iload_n (pc := 69) dX7_compress_69 3 rfl rfl ?_
        refine x_iload_n (pc := 70) dX7_compress_70 0 rfl rfl ?_
        obtain ⟨Q15, hc16, h⟩ := h
        refine x_callVI (pc := 71) 327 hc16 ok_X7_neighbour dX7_compress_71 tb_977 ⟨⟨rfl, rfl⟩, ⟨by decide, by decide⟩, by decide, by decide⟩ (mK hG (by decide)) (mc_327 hG _) rfl (As := [.int a2, .int r12]) rfl rfl (Nat.le_of_ble_eq_true rfl) (fun r17 m18 q19 => ?_)
        have h := h r17 m18 q19
        refine x_istore (pc := 74) dX7_compress_74 (by decide) rfl ?_
        refine x_aload_n (pc := 76) dX7_compress_76 2 rfl rfl ?_
        refine x_get (pc := 77) 327 18 dX7_compress_77 (mK hG (by decide)) (mc_327 hG _) rfl inX7 (by decide) tb_729 rfl rfl ?_
        refine x_bipush (pc := 80) (v := 12) dX7_compress_80 (by decide) ?_
        refine x_iload_n (pc := 82) dX7_compress_82 4 rfl rfl ?_
        refine x_imul (pc := 83) dX7_compress_83 ?_
        refine x_iload_n (pc := 84) dX7_compress_84 1 rfl rfl ?_
        refine x_iadd (pc := 85) dX7_compress_85 ?_
        have n20 := h.1
        refine x_iald (pc := 86) 339 dX7_compress_86 (mK hG (by decide)) (mc_339 hG _) n20 ?_
        have h := h.2
        refine x_iconst (pc := 87) (v := 1) dX7_compress_87 (by decide) ?_
        refine x_icmp_ne (pc := 88) (tgt := 139) dX7_compress_88 (by decide) (fun c21 => ?_) (fun c21 => ?_)
        · have h := h.1 c21
          refine x_iinc (pc := 139) (v := (a2 + 1)) dX7_compress_139 (k := 4) rfl rfl (by decide) rfl ?_
          refine x_goto (pc := 142) (tgt := 37) dX7_compress_142 (by decide) ?_
          exact x_sub [3, 4, 0] rfl h
        · have h := h.2 c21
          refine x_aload_n (pc := 91) dX7_compress_91 2 rfl rfl ?_
          refine x_get (pc := 92) 327 18 dX7_compress_92 (mK hG (by decide)) (mc_327 hG _) rfl inX7 (by decide) tb_729 rfl rfl ?_
          refine x_bipush (pc := 95) (v := 12) dX7_compress_95 (by decide) ?_
          refine x_iload_n (pc := 97) dX7_compress_97 4 rfl rfl ?_
          refine x_imul (pc := 98) dX7_compress_98 ?_
          refine x_iload (pc := 99) dX7_compress_99 0 rfl ?_
          refine x_iadd (pc := 101) dX7_compress_101 ?_
          have n22 := h.1
          refine x_iald (pc := 102) 339 dX7_compress_102 (mK hG (by decide)) (mc_339 hG _) n22 ?_
          have h := h.2
          refine x_iconst (pc := 103) (v := 1) dX7_compress_103 (by decide) ?_
          refine x_icmp_ne (pc := 104) (tgt := 139) dX7_compress_104 (by decide) (fun c23 => ?_) (fun c23 => ?_)
          · have h := h.1 c23
            refine x_iinc (pc := 139) (v := (a2 + 1)) dX7_compress_139 (k := 4) rfl rfl (by decide) rfl ?_
            refine x_goto (pc := 142) (tgt := 37) dX7_compress_142 (by decide) ?_
            exact x_sub [3, 4, 0] rfl h
          · have h := h.2 c23
            refine x_aload_n (pc := 107) dX7_compress_107 2 rfl rfl ?_
            refine x_iload_n (pc := 108) dX7_compress_108 4 rfl rfl ?_
            refine x_iload_n (pc := 109) dX7_compress_109 3 rfl rfl ?_
            obtain ⟨Q24, hc25, h⟩ := h
            refine x_callVV (pc := 110) 327 hc25 ok_X7_removeVertex dX7_compress_110 tb_969 ⟨⟨rfl, rfl⟩, ⟨by decide, by decide⟩, by decide, by decide⟩ (mK hG (by decide)) (mc_327 hG _) rfl (As := [.int a2, .int a1]) rfl rfl (Nat.le_of_ble_eq_true rfl) (fun m27 q28 => ?_)
            have h := h m27 q28
            refine x_aload_n (pc := 113) dX7_compress_113 2 rfl rfl ?_
            refine x_get (pc := 114) 327 18 dX7_compress_114 (mK hG (by decide)) (mc_327 hG _) rfl inX7 (by decide) tb_729 rfl rfl ?_
            refine x_bipush (pc := 117) (v := 12) dX7_compress_117 (by decide) ?_
            refine x_iload_n (pc := 119) dX7_compress_119 1 rfl rfl ?_
            refine x_imul (pc := 120) dX7_compress_120 ?_
            refine x_iload (pc := 121) dX7_compress_121 0 rfl ?_
            refine x_iadd (pc := 123) dX7_compress_123 ?_
            refine x_iconst (pc := 124) (v := 2) dX7_compress_124 (by decide) ?_
            have n29 := h.1
            have h := h.2
            refine x_iast (pc := 125) 339 dX7_compress_125 (mK hG (by decide)) (mc_339 hG) n29 ?_
            refine x_aload_n (pc := 126) dX7_compress_126 2 rfl rfl ?_
            refine x_get (pc := 127) 327 18 dX7_compress_127 (mK hG (by decide)) (mc_327 hG _) rfl inX7 (by decide) tb_729 rfl rfl ?_
            refine x_bipush (pc := 130) (v := 12) dX7_compress_130 (by decide) ?_
            refine x_iload (pc := 132) dX7_compress_132 0 rfl ?_
            refine x_imul (pc := 134) dX7_compress_134 ?_
            refine x_iload_n (pc := 135) dX7_compress_135 1 rfl rfl ?_
            refine x_iadd (pc := 136) dX7_compress_136 ?_
            refine x_iconst (pc := 137) (v := 2) dX7_compress_137 (by decide) ?_
            have n30 := h.1
            have h := h.2
            refine x_iast (pc := 138) 339 dX7_compress_138 (mK hG (by decide)) (mc_339 hG) n30 ?_
            refine x_iinc (pc := 139) (v := (a2 + 1)) dX7_compress_139 (k := 4) rfl rfl (by decide) rfl ?_
            refine x_goto (pc := 142) (tgt := 37) dX7_compress_142 (by decide) ?_
            exact x_sub [3, 4, 0] rfl h
set_option maxRecDepth 100000 in
set_option maxHeartbeats 4000000 in
theorem t_X7_contract_0 {l : Launch} {G : Gx} {P : Mem → Prop} (hG : Mn G) {r : Nat} (hr : Ra G r) (a2 : Int32) (mem : Mem)
    (h : ∃ Q1 : Mem → Prop, CtV l M_X7_layFar G [.ref (gA G 327), .ref (gA G r), .int a2] mem Q1 ∧ ∀ m4 : Mem, Q1 m4 → (XV l M_X7_contract G P m4 8 [(0, .ref (gA G 327)), (1, .ref (gA G r)), (3, .int 0)] [])) :
    XV l M_X7_contract G P mem 0 [(0, .ref (gA G 327)), (1, .ref (gA G r)), (2, .int a2)] [] := by
  refine x_aload_n (pc := 0) dX7_contract_0 0 rfl rfl ?_
  refine x_aload_n (pc := 1) dX7_contract_1 1 rfl rfl ?_
  refine x_iload_n (pc := 2) dX7_contract_2 2 rfl rfl ?_
  obtain ⟨Q1, hc2, h⟩ := h
  refine x_callVV (pc := 3) 327 hc2 ok_X7_layFar dX7_contract_3 tb_824 ⟨⟨rfl, rfl⟩, ⟨by decide, by decide⟩, by decide, by decide⟩ (mK hG (by decide)) (mc_327 hG _) rfl (As := [.ref (gA G r), .int a2]) rfl rfl (Nat.le_of_ble_eq_true rfl) (fun m4 q5 => ?_)
  have h := h m4 q5
  refine x_iconst (pc := 6) (v := 0) dX7_contract_6 (by decide) ?_
  refine x_istore_n (pc := 7) dX7_contract_7 rfl (by decide) rfl ?_
  exact x_sub [1, 2, 0] rfl h
set_option maxRecDepth 100000 in
set_option maxHeartbeats 4000000 in
theorem t_X7_contract_8 {l : Launch} {G : Gx} {P : Mem → Prop} (hG : Mn G) {r : Nat} (hr : Ra G r) (a3 : Int32) (mem : Mem)
    (h : (12 ≤ a3 → (XV l M_X7_contract G P mem 52 [(0, .ref (gA G 327)), (1, .ref (gA G r)), (3, .int 0)] [])) ∧ (¬ 12 ≤ a3 → (vp_in a3 12 ∧ (((mem 336 a3.toNatClampNeg) = (-9) → (vp_in a3 12 ∧ (vp_in a3 12 ∧ (XV l M_X7_contract G P (wr (wr mem 340 a3.toNatClampNeg 0) 342 a3.toNatClampNeg (-9)) 8 [(0, .ref (gA G 327)), (1, .ref (gA G r)), (3, .int (a3 + 1))] [])))) ∧ (¬ (mem 336 a3.toNatClampNeg) = (-9) → (vp_in a3 12 ∧ (vp_in a3 12 ∧ (XV l M_X7_contract G P (wr (wr mem 340 a3.toNatClampNeg 1) 342 a3.toNatClampNeg (-9)) 8 [(0, .ref (gA G 327)), (1, .ref (gA G r)), (3, .int (a3 + 1))] [])))))))) :
    XV l M_X7_contract G P mem 8 [(0, .ref (gA G 327)), (1, .ref (gA G r)), (3, .int a3)] [] := by
  refine x_iload_n (pc := 8) dX7_contract_8 2 rfl rfl ?_
  refine x_bipush (pc := 9) (v := 12) dX7_contract_9 (by decide) ?_
  refine x_icmp_ge (pc := 11) (tgt := 50) dX7_contract_11 (by decide) (fun c1 => ?_) (fun c1 => ?_)
  · have h := h.1 c1
    refine x_iconst (pc := 50) (v := 0) dX7_contract_50 (by decide) ?_
    refine x_istore_n (pc := 51) dX7_contract_51 rfl (by decide) rfl ?_
    exact x_sub [1, 2, 0] rfl h
  · have h := h.2 c1
    refine x_aload_n (pc := 14) dX7_contract_14 0 rfl rfl ?_
    refine x_get (pc := 15) 327 19 dX7_contract_15 (mK hG (by decide)) (mc_327 hG _) rfl inX7 (by decide) tb_730 rfl rfl ?_
    refine x_iload_n (pc := 18) dX7_contract_18 2 rfl rfl ?_
    refine x_aload_n (pc := 19) dX7_contract_19 0 rfl rfl ?_
    refine x_get (pc := 20) 327 15 dX7_contract_20 (mK hG (by decide)) (mc_327 hG _) rfl inX7 (by decide) tb_726 rfl rfl ?_
    refine x_iload_n (pc := 23) dX7_contract_23 2 rfl rfl ?_
    have n2 := h.1
    refine x_iald (pc := 24) 336 dX7_contract_24 (mK hG (by decide)) (mc_336 hG _) n2 ?_
    have h := h.2
    refine x_bipush (pc := 25) (v := (-9)) dX7_contract_25 (by decide) ?_
    refine x_icmp_eq (pc := 27) (tgt := 34) dX7_contract_27 (by decide) (fun c3 => ?_) (fun c3 => ?_)
    · have h := h.1 c3
      refine x_iconst (pc := 34) (v := 0) dX7_contract_34 (by decide) ?_
      have n4 := h.1
      have h := h.2
      refine x_zast (pc := 35) 340 dX7_contract_35 (mK hG (by decide)) (mc_340 hG) n4 (Or.inl rfl) ?_
      refine x_aload_n (pc := 36) dX7_contract_36 0 rfl rfl ?_
      refine x_get (pc := 37) 327 21 dX7_contract_37 (mK hG (by decide)) (mc_327 hG _) rfl inX7 (by decide) tb_732 rfl rfl ?_
      refine x_iload_n (pc := 40) dX7_contract_40 2 rfl rfl ?_
      refine x_bipush (pc := 41) (v := (-9)) dX7_contract_41 (by decide) ?_
      have n5 := h.1
      have h := h.2
      refine x_iast (pc := 43) 342 dX7_contract_43 (mK hG (by decide)) (mc_342 hG) n5 ?_
      refine x_iinc (pc := 44) (v := (a3 + 1)) dX7_contract_44 (k := 2) rfl rfl (by decide) rfl ?_
      refine x_goto (pc := 47) (tgt := 8) dX7_contract_47 (by decide) ?_
      exact x_sub [1, 2, 0] rfl h
    · have h := h.2 c3
      refine x_iconst (pc := 30) (v := 1) dX7_contract_30 (by decide) ?_
      refine x_goto (pc := 31) (tgt := 35) dX7_contract_31 (by decide) ?_
      have n6 := h.1
      have h := h.2
      refine x_zast (pc := 35) 340 dX7_contract_35 (mK hG (by decide)) (mc_340 hG) n6 (Or.inr rfl) ?_
      refine x_aload_n (pc := 36) dX7_contract_36 0 rfl rfl ?_
      refine x_get (pc := 37) 327 21 dX7_contract_37 (mK hG (by decide)) (mc_327 hG _) rfl inX7 (by decide) tb_732 rfl rfl ?_
      refine x_iload_n (pc := 40) dX7_contract_40 2 rfl rfl ?_
      refine x_bipush (pc := 41) (v := (-9)) dX7_contract_41 (by decide) ?_
      have n7 := h.1
      have h := h.2
      refine x_iast (pc := 43) 342 dX7_contract_43 (mK hG (by decide)) (mc_342 hG) n7 ?_
      refine x_iinc (pc := 44) (v := (a3 + 1)) dX7_contract_44 (k := 2) rfl rfl (by decide) rfl ?_
      refine x_goto (pc := 47) (tgt := 8) dX7_contract_47 (by decide) ?_
      exact x_sub [1, 2, 0] rfl h
set_option maxRecDepth 100000 in
set_option maxHeartbeats 4000000 in
theorem t_X7_contract_52 {l : Launch} {G : Gx} {P : Mem → Prop} (hG : Mn G) {r : Nat} (hr : Ra G r) (a3 : Int32) (mem : Mem)
    (h : (12 ≤ a3 → (XV l M_X7_contract G P (wr mem 327 23 0) 122 [(0, .ref (gA G 327))] [])) ∧ (¬ 12 ≤ a3 → (XV l M_X7_contract G P mem 61 [(0, .ref (gA G 327)), (1, .ref (gA G r)), (3, .int a3), (4, .int 0)] []))) :
    XV l M_X7_contract G P mem 52 [(0, .ref (gA G 327)), (1, .ref (gA G r)), (3, .int a3)] [] := by
  refine x_iload_n (pc := 52) dX7_contract_52 2 rfl rfl ?_
  refine x_bipush (pc := 53) (v := 12) dX7_contract_53 (by decide) ?_
  refine x_icmp_ge (pc := 55) (tgt := 117) dX7_contract_55 (by decide) (fun c1 => ?_) (fun c1 => ?_)
  · have h := h.1 c1
    refine x_aload_n (pc := 117) dX7_contract_117 0 rfl rfl ?_
    refine x_iconst (pc := 118) (v := 0) dX7_contract_118 (by decide) ?_
    refine x_put (pc := 119) 327 23 dX7_contract_119 (mK hG (by decide)) (mc_327 hG) rfl inX7 tyX7 tyX7_ok nmX7 (by decide) tb_734 rfl rfl (by decide +kernel) (fun _ => Nat.le_of_ble_eq_true rfl) (fun _ _ => rfl) ?_
    exact x_sub [0] rfl h
  · have h := h.2 c1
    refine x_iconst (pc := 58) (v := 0) dX7_contract_58 (by decide) ?_
    refine x_istore (pc := 59) dX7_contract_59 (by decide) rfl ?_
    exact x_sub [1, 2, 3, 0] rfl h
set_option maxRecDepth 100000 in
set_option maxHeartbeats 4000000 in
theorem t_X7_contract_61 {l : Launch} {G : Gx} {P : Mem → Prop} (hG : Mn G) {r : Nat} (hr : Ra G r) (a3 : Int32) (a4 : Int32) (mem : Mem)
    (h : (12 ≤ a4 → (XV l M_X7_contract G P mem 52 [(0, .ref (gA G 327)), (1, .ref (gA G r)), (3, .int (a3 + 1))] [])) ∧ (¬ 12 ≤ a4 → (vp_in a3 12 ∧ (((mem 340 a3.toNatClampNeg) = 0 → (vp_in ((12 * a3) + a4) 144 ∧ (XV l M_X7_contract G P (wr mem 339 (((12 * a3) + a4).toNatClampNeg) 0) 61 [(0, .ref (gA G 327)), (1, .ref (gA G r)), (3, .int a3), (4, .int (a4 + 1))] []))) ∧ (¬ (mem 340 a3.toNatClampNeg) = 0 → (∃ Q5 : Int32 → Mem → Prop, CtI l M_X7_at G [.int a3, .int a4] mem Q5 ∧ ∀ (r7 : Int32) (m8 : Mem), Q5 r7 m8 → (vp_in r7 156 ∧ (((m8 r r7.toNatClampNeg) ≤ 0 → (vp_in ((12 * a3) + a4) 144 ∧ (XV l M_X7_contract G P (wr m8 339 (((12 * a3) + a4).toNatClampNeg) 0) 61 [(0, .ref (gA G 327)), (1, .ref (gA G r)), (3, .int a3), (4, .int (a4 + 1))] []))) ∧ (¬ (m8 r r7.toNatClampNeg) ≤ 0 → (vp_in ((12 * a3) + a4) 144 ∧ (XV l M_X7_contract G P (wr m8 339 (((12 * a3) + a4).toNatClampNeg) 1) 61 [(0, .ref (gA G 327)), (1, .ref (gA G r)), (3, .int a3), (4, .int (a4 + 1))] []))))))))))) :
    XV l M_X7_contract G P mem 61 [(0, .ref (gA G 327)), (1, .ref (gA G r)), (3, .int a3), (4, .int a4)] [] := by
  refine x_iload (pc := 61) dX7_contract_61 3 rfl ?_
  refine x_bipush (pc := 63) (v := 12) dX7_contract_63 (by decide) ?_
  refine x_icmp_ge (pc := 65) (tgt := 111) dX7_contract_65 (by decide) (fun c1 => ?_) (fun c1 => ?_)
  · have h := h.1 c1
    refine x_iinc (pc := 111) (v := (a3 + 1)) dX7_contract_111 (k := 2) rfl rfl (by decide) rfl ?_
    refine x_goto (pc := 114) (tgt := 52) dX7_contract_114 (by decide) ?_
    exact x_sub [1, 2, 0] rfl h
  · have h := h.2 c1
    refine x_aload_n (pc := 68) dX7_contract_68 0 rfl rfl ?_
    refine x_get (pc := 69) 327 18 dX7_contract_69 (mK hG (by decide)) (mc_327 hG _) rfl inX7 (by decide) tb_729 rfl rfl ?_
    refine x_bipush (pc := 72) (v := 12) dX7_contract_72 (by decide) ?_
    refine x_iload_n (pc := 74) dX7_contract_74 2 rfl rfl ?_
    refine x_imul (pc := 75) dX7_contract_75 ?_
    refine x_iload (pc := 76) dX7_contract_76 3 rfl ?_
    refine x_iadd (pc := 78) dX7_contract_78 ?_
    refine x_aload_n (pc := 79) dX7_contract_79 0 rfl rfl ?_
    refine x_get (pc := 80) 327 19 dX7_contract_80 (mK hG (by decide)) (mc_327 hG _) rfl inX7 (by decide) tb_730 rfl rfl ?_
    refine x_iload_n (pc := 83) dX7_contract_83 2 rfl rfl ?_
    have n2 := h.1
    refine x_zald (pc := 84) 340 dX7_contract_84 (mK hG (by decide)) (mc_340 hG _) n2 ?_
    have h := h.2
    refine x_if_eq (pc := 85) (tgt := 103) dX7_contract_85 (by decide) (fun c3 => ?_) (fun c3 => ?_)
    · have h := h.1 c3
      refine x_iconst (pc := 103) (v := 0) dX7_contract_103 (by decide) ?_
      have n4 := h.1
      have h := h.2
      refine x_iast (pc := 104) 339 dX7_contract_104 (mK hG (by decide)) (mc_339 hG) n4 ?_
      refine x_iinc (pc := 105) (v := (a4 + 1)) dX7_contract_105 (k := 3) rfl rfl (by decide) rfl ?_
      refine x_goto (pc := 108) (tgt := 61) dX7_contract_108 (by decide) ?_
      exact x_sub [1, 2, 3, 0] rfl h
    · have h := h.2 c3
      refine x_aload_n (pc := 88) dX7_contract_88 1 rfl rfl ?_
      refine x_iload_n (pc := 89) dX7_contract_89 2 rfl rfl ?_
      refine x_iload (pc := 90) dX7_contract_90 3 rfl ?_
      obtain ⟨Q5, hc6, h⟩ := h
      refine x_callSI (pc := 92) hc6 ok_X7_at dX7_contract_92 tb_828 ⟨⟨rfl, rfl⟩, ⟨by decide, by decide⟩, by decide, by decide⟩ rfl rfl (Nat.le_of_ble_eq_true rfl) (fun r7 m8 q9 => ?_)
      have h := h r7 m8 q9
      have n10 := h.1
      refine x_iald (pc := 95) r dX7_contract_95 (Ra_K hr) (Ra_c hr _) n10 ?_
      have h := h.2
      refine x_if_le (pc := 96) (tgt := 103) dX7_contract_96 (by decide) (fun c11 => ?_) (fun c11 => ?_)
      · have h := h.1 c11
        refine x_iconst (pc := 103) (v := 0) dX7_contract_103 (by decide) ?_
        have n12 := h.1
        have h := h.2
        refine x_iast (pc := 104) 339 dX7_contract_104 (mK hG (by decide)) (mc_339 hG) n12 ?_
        refine x_iinc (pc := 105) (v := (a4 + 1)) dX7_contract_105 (k := 3) rfl rfl (by decide) rfl ?_
        refine x_goto (pc := 108) (tgt := 61) dX7_contract_108 (by decide) ?_
        exact x_sub [1, 2, 3, 0] rfl h
      · have h := h.2 c11
        refine x_iconst (pc := 99) (v := 1) dX7_contract_99 (by decide) ?_
        refine x_goto (pc := 100) (tgt := 104) dX7_contract_100 (by decide) ?_
        have n13 := h.1
        have h := h.2
        refine x_iast (pc := 104) 339 dX7_contract_104 (mK hG (by decide)) (mc_339 hG) n13 ?_
        refine x_iinc (pc := 105) (v := (a4 + 1)) dX7_contract_105 (k := 3) rfl rfl (by decide) rfl ?_
        refine x_goto (pc := 108) (tgt := 61) dX7_contract_108 (by decide) ?_
        exact x_sub [1, 2, 3, 0] rfl h
set_option maxRecDepth 100000 in
set_option maxHeartbeats 4000000 in
theorem t_X7_contract_122 {l : Launch} {G : Gx} {P : Mem → Prop} (hG : Mn G) {r : Nat} (hr : Ra G r)  (mem : Mem)
    (h : ∃ Q1 : Int32 → Mem → Prop, CtI l M_X7_many G [.ref (gA G 327)] mem Q1 ∧ ∀ (r3 : Int32) (m4 : Mem), Q1 r3 m4 → ((r3 ≤ 1 → (XV l M_X7_contract G P (wr m4 327 22 0) 164 [(0, .ref (gA G 327))] [])) ∧ (¬ r3 ≤ 1 → (∃ Q7 : Mem → Prop, CtV l M_X7_rake G [.ref (gA G 327), .int ((wr m4 327 23 ((m4 327 23) + 1)) 327 23)] (wr m4 327 23 ((m4 327 23) + 1)) Q7 ∧ ∀ m10 : Mem, Q7 m10 → (∃ Q12 : Mem → Prop, CtV l M_X7_compress G [.ref (gA G 327), .int (m10 327 23)] m10 Q12 ∧ ∀ m15 : Mem, Q12 m15 → (XV l M_X7_contract G P m15 122 [(0, .ref (gA G 327))] [])))))) :
    XV l M_X7_contract G P mem 122 [(0, .ref (gA G 327))] [] := by
  refine x_aload_n (pc := 122) dX7_contract_122 0 rfl rfl ?_
  obtain ⟨Q1, hc2, h⟩ := h
  refine x_callVI (pc := 123) 327 hc2 ok_X7_many dX7_contract_123 tb_957 ⟨⟨rfl, rfl⟩, ⟨by decide, by decide⟩, by decide, by decide⟩ (mK hG (by decide)) (mc_327 hG _) rfl (As := []) rfl rfl (Nat.le_of_ble_eq_true rfl) (fun r3 m4 q5 => ?_)
  have h := h r3 m4 q5
  refine x_iconst (pc := 126) (v := 1) dX7_contract_126 (by decide) ?_
  refine x_icmp_le (pc := 127) (tgt := 159) dX7_contract_127 (by decide) (fun c6 => ?_) (fun c6 => ?_)
  · have h := h.1 c6
    refine x_aload_n (pc := 159) dX7_contract_159 0 rfl rfl ?_
    refine x_iconst (pc := 160) (v := 0) dX7_contract_160 (by decide) ?_
    refine x_put (pc := 161) 327 22 dX7_contract_161 (mK hG (by decide)) (mc_327 hG) rfl inX7 tyX7 tyX7_ok nmX7 (by decide) tb_733 rfl rfl (by decide +kernel) (fun _ => Nat.le_of_ble_eq_true rfl) (fun _ _ => rfl) ?_
    exact x_sub [0] rfl h
  · have h := h.2 c6
    refine x_aload_n (pc := 130) dX7_contract_130 0 rfl rfl ?_
    refine x_dup (pc := 131) dX7_contract_131 rfl ?_
    refine x_get (pc := 132) 327 23 dX7_contract_132 (mK hG (by decide)) (mc_327 hG _) rfl inX7 (by decide) tb_734 rfl rfl ?_
    refine x_iconst (pc := 135) (v := 1) dX7_contract_135 (by decide) ?_
    refine x_iadd (pc := 136) dX7_contract_136 ?_
    refine x_put (pc := 137) 327 23 dX7_contract_137 (mK hG (by decide)) (mc_327 hG) rfl inX7 tyX7 tyX7_ok nmX7 (by decide) tb_734 rfl rfl (by decide +kernel) (fun _ => Nat.le_of_ble_eq_true rfl) (fun _ _ => rfl) ?_
    refine x_aload_n (pc := 140) dX7_contract_140 0 rfl rfl ?_
    refine x_aload_n (pc := 141) dX7_contract_141 0 rfl rfl ?_
    refine x_get (pc := 142) 327 23 dX7_contract_142 (mK hG (by decide)) (mc_327 hG _) rfl inX7 (by decide) tb_734 rfl rfl ?_
    obtain ⟨Q7, hc8, h⟩ := h
    refine x_callVV (pc := 145) 327 hc8 ok_X7_rake dX7_contract_145 tb_961 ⟨⟨rfl, rfl⟩, ⟨by decide, by decide⟩, by decide, by decide⟩ (mK hG (by decide)) (mc_327 hG _) rfl (As := [.int ((wr m4 327 23 ((m4 327 23) + 1)) 327 23)]) rfl rfl (Nat.le_of_ble_eq_true rfl) (fun m10 q11 => ?_)
    have h := h m10 q11
    refine x_aload_n (pc := 148) dX7_contract_148 0 rfl rfl ?_
    refine x_aload_n (pc := 149) dX7_contract_149 0 rfl rfl ?_
    refine x_get (pc := 150) 327 23 dX7_contract_150 (mK hG (by decide)) (mc_327 hG _) rfl inX7 (by decide) tb_734 rfl rfl ?_
    obtain ⟨Q12, hc13, h⟩ := h
    refine x_callVV (pc := 153) 327 hc13 ok_X7_compress dX7_contract_153 tb_973 ⟨⟨rfl, rfl⟩, ⟨by decide, by decide⟩, by decide, by decide⟩ (mK hG (by decide)) (mc_327 hG _) rfl (As := [.int (m10 327 23)]) rfl rfl (Nat.le_of_ble_eq_true rfl) (fun m15 q16 => ?_)
    have h := h m15 q16
    refine x_goto (pc := 156) (tgt := 122) dX7_contract_156 (by decide) ?_
    exact x_sub [0] rfl h
set_option maxRecDepth 100000 in
set_option maxHeartbeats 4000000 in
theorem t_X7_contract_164 {l : Launch} {G : Gx} {P : Mem → Prop} (hG : Mn G) {r : Nat} (hr : Ra G r)  (mem : Mem)
    (h : vp_in (mem 327 22) 12 ∧ ((¬ (mem 340 (mem 327 22).toNatClampNeg) = 0 → (P mem)) ∧ ((mem 340 (mem 327 22).toNatClampNeg) = 0 → (XV l M_X7_contract G P (wr mem 327 22 ((mem 327 22) + 1)) 164 [(0, .ref (gA G 327))] [])))) :
    XV l M_X7_contract G P mem 164 [(0, .ref (gA G 327))] [] := by
  refine x_aload_n (pc := 164) dX7_contract_164 0 rfl rfl ?_
  refine x_get (pc := 165) 327 19 dX7_contract_165 (mK hG (by decide)) (mc_327 hG _) rfl inX7 (by decide) tb_730 rfl rfl ?_
  refine x_aload_n (pc := 168) dX7_contract_168 0 rfl rfl ?_
  refine x_get (pc := 169) 327 22 dX7_contract_169 (mK hG (by decide)) (mc_327 hG _) rfl inX7 (by decide) tb_733 rfl rfl ?_
  have n1 := h.1
  refine x_zald (pc := 172) 340 dX7_contract_172 (mK hG (by decide)) (mc_340 hG _) n1 ?_
  have h := h.2
  refine x_if_ne (pc := 173) (tgt := 189) dX7_contract_173 (by decide) (fun c2 => ?_) (fun c2 => ?_)
  · have h := h.1 c2
    exact x_endV (pc := 189) dX7_contract_189 rfl h
  · have h := h.2 c2
    refine x_aload_n (pc := 176) dX7_contract_176 0 rfl rfl ?_
    refine x_dup (pc := 177) dX7_contract_177 rfl ?_
    refine x_get (pc := 178) 327 22 dX7_contract_178 (mK hG (by decide)) (mc_327 hG _) rfl inX7 (by decide) tb_733 rfl rfl ?_
    refine x_iconst (pc := 181) (v := 1) dX7_contract_181 (by decide) ?_
    refine x_iadd (pc := 182) dX7_contract_182 ?_
    refine x_put (pc := 183) 327 22 dX7_contract_183 (mK hG (by decide)) (mc_327 hG) rfl inX7 tyX7 tyX7_ok nmX7 (by decide) tb_733 rfl rfl (by decide +kernel) (fun _ => Nat.le_of_ble_eq_true rfl) (fun _ _ => rfl) ?_
    refine x_goto (pc := 186) (tgt := 164) dX7_contract_186 (by decide) ?_
    exact x_sub [0] rfl h
set_option maxRecDepth 100000 in
set_option maxHeartbeats 4000000 in
theorem t_X7_rounds_0 {l : Launch} {G : Gx} {P : Int32 → Mem → Prop} (hG : Mn G) (a1 : Int32) (mem : Mem)
    (h : ∃ Q1 : Int32 → Mem → Prop, CtI l M_X7_isVertex G [.ref (gA G 327), .int a1] mem Q1 ∧ ∀ (r3 : Int32) (m4 : Mem), Q1 r3 m4 → ((¬ r3 = 0 → (∃ Q7 : Mem → Prop, CtV l M_X7_contract G [.ref (gA G 327), .ref (gA G 329), .int a1] m4 Q7 ∧ ∀ m10 : Mem, Q7 m10 → (P (m10 327 23) m10))) ∧ (r3 = 0 → (P (-1) m4)))) :
    XI l M_X7_rounds G P mem 0 [(0, .ref (gA G 327)), (1, .int a1)] [] := by
  refine x_aload_n (pc := 0) dX7_rounds_0 0 rfl rfl ?_
  refine x_iload_n (pc := 1) dX7_rounds_1 1 rfl rfl ?_
  obtain ⟨Q1, hc2, h⟩ := h
  refine x_callVI (pc := 2) 327 hc2 ok_X7_isVertex dX7_rounds_2 tb_848 ⟨⟨rfl, rfl⟩, ⟨by decide, by decide⟩, by decide, by decide⟩ (mK hG (by decide)) (mc_327 hG _) rfl (As := [.int a1]) rfl rfl (Nat.le_of_ble_eq_true rfl) (fun r3 m4 q5 => ?_)
  have h := h r3 m4 q5
  refine x_if_ne (pc := 5) (tgt := 10) dX7_rounds_5 (by decide) (fun c6 => ?_) (fun c6 => ?_)
  · have h := h.1 c6
    refine x_aload_n (pc := 10) dX7_rounds_10 0 rfl rfl ?_
    refine x_aload_n (pc := 11) dX7_rounds_11 0 rfl rfl ?_
    refine x_get (pc := 12) 327 5 dX7_rounds_12 (mK hG (by decide)) (mc_327 hG _) rfl inX7 (by decide) tb_716 rfl rfl ?_
    refine x_iload_n (pc := 15) dX7_rounds_15 1 rfl rfl ?_
    obtain ⟨Q7, hc8, h⟩ := h
    refine x_callVV (pc := 16) 327 hc8 ok_X7_contract dX7_rounds_16 tb_953 ⟨⟨rfl, rfl⟩, ⟨by decide, by decide⟩, by decide, by decide⟩ (mK hG (by decide)) (mc_327 hG _) rfl (As := [.ref (gA G 329), .int a1]) rfl rfl (Nat.le_of_ble_eq_true rfl) (fun m10 q11 => ?_)
    have h := h m10 q11
    refine x_aload_n (pc := 19) dX7_rounds_19 0 rfl rfl ?_
    refine x_get (pc := 20) 327 23 dX7_rounds_20 (mK hG (by decide)) (mc_327 hG _) rfl inX7 (by decide) tb_734 rfl rfl ?_
    exact x_endI (pc := 23) dX7_rounds_23 rfl h
  · have h := h.2 c6
    refine x_iconst (pc := 8) (v := (-1)) dX7_rounds_8 (by decide) ?_
    exact x_endI (pc := 9) dX7_rounds_9 rfl h
set_option maxRecDepth 100000 in
set_option maxHeartbeats 4000000 in
theorem t_X7_removalRound_0 {l : Launch} {G : Gx} {P : Int32 → Mem → Prop} (hG : Mn G) (a1 : Int32) (mem : Mem)
    (h : ∃ Q1 : Int32 → Mem → Prop, CtI l M_X7_isVertex G [.ref (gA G 327), .int a1] mem Q1 ∧ ∀ (r3 : Int32) (m4 : Mem), Q1 r3 m4 → ((¬ r3 = 0 → (∃ Q7 : Mem → Prop, CtV l M_X7_contract G [.ref (gA G 327), .ref (gA G 329), .int a1] m4 Q7 ∧ ∀ m10 : Mem, Q7 m10 → (vp_in a1 12 ∧ (P (m10 342 a1.toNatClampNeg) m10)))) ∧ (r3 = 0 → (P (-1) m4)))) :
    XI l M_X7_removalRound G P mem 0 [(0, .ref (gA G 327)), (1, .int a1)] [] := by
  refine x_aload_n (pc := 0) dX7_removalRound_0 0 rfl rfl ?_
  refine x_iload_n (pc := 1) dX7_removalRound_1 1 rfl rfl ?_
  obtain ⟨Q1, hc2, h⟩ := h
  refine x_callVI (pc := 2) 327 hc2 ok_X7_isVertex dX7_removalRound_2 tb_848 ⟨⟨rfl, rfl⟩, ⟨by decide, by decide⟩, by decide, by decide⟩ (mK hG (by decide)) (mc_327 hG _) rfl (As := [.int a1]) rfl rfl (Nat.le_of_ble_eq_true rfl) (fun r3 m4 q5 => ?_)
  have h := h r3 m4 q5
  refine x_if_ne (pc := 5) (tgt := 10) dX7_removalRound_5 (by decide) (fun c6 => ?_) (fun c6 => ?_)
  · have h := h.1 c6
    refine x_aload_n (pc := 10) dX7_removalRound_10 0 rfl rfl ?_
    refine x_aload_n (pc := 11) dX7_removalRound_11 0 rfl rfl ?_
    refine x_get (pc := 12) 327 5 dX7_removalRound_12 (mK hG (by decide)) (mc_327 hG _) rfl inX7 (by decide) tb_716 rfl rfl ?_
    refine x_iload_n (pc := 15) dX7_removalRound_15 1 rfl rfl ?_
    obtain ⟨Q7, hc8, h⟩ := h
    refine x_callVV (pc := 16) 327 hc8 ok_X7_contract dX7_removalRound_16 tb_953 ⟨⟨rfl, rfl⟩, ⟨by decide, by decide⟩, by decide, by decide⟩ (mK hG (by decide)) (mc_327 hG _) rfl (As := [.ref (gA G 329), .int a1]) rfl rfl (Nat.le_of_ble_eq_true rfl) (fun m10 q11 => ?_)
    have h := h m10 q11
    refine x_aload_n (pc := 19) dX7_removalRound_19 0 rfl rfl ?_
    refine x_get (pc := 20) 327 21 dX7_removalRound_20 (mK hG (by decide)) (mc_327 hG _) rfl inX7 (by decide) tb_732 rfl rfl ?_
    refine x_iload_n (pc := 23) dX7_removalRound_23 1 rfl rfl ?_
    have n12 := h.1
    refine x_iald (pc := 24) 342 dX7_removalRound_24 (mK hG (by decide)) (mc_342 hG _) n12 ?_
    have h := h.2
    exact x_endI (pc := 25) dX7_removalRound_25 rfl h
  · have h := h.2 c6
    refine x_iconst (pc := 8) (v := (-1)) dX7_removalRound_8 (by decide) ?_
    exact x_endI (pc := 9) dX7_removalRound_9 rfl h
set_option maxRecDepth 100000 in
set_option maxHeartbeats 4000000 in
theorem t_X7_survivor_0 {l : Launch} {G : Gx} {P : Int32 → Mem → Prop} (hG : Mn G) (a1 : Int32) (mem : Mem)
    (h : ∃ Q1 : Int32 → Mem → Prop, CtI l M_X7_isVertex G [.ref (gA G 327), .int a1] mem Q1 ∧ ∀ (r3 : Int32) (m4 : Mem), Q1 r3 m4 → ((¬ r3 = 0 → (∃ Q7 : Mem → Prop, CtV l M_X7_contract G [.ref (gA G 327), .ref (gA G 329), .int a1] m4 Q7 ∧ ∀ m10 : Mem, Q7 m10 → (P (m10 327 22) m10))) ∧ (r3 = 0 → (P (-1) m4)))) :
    XI l M_X7_survivor G P mem 0 [(0, .ref (gA G 327)), (1, .int a1)] [] := by
  refine x_aload_n (pc := 0) dX7_survivor_0 0 rfl rfl ?_
  refine x_iload_n (pc := 1) dX7_survivor_1 1 rfl rfl ?_
  obtain ⟨Q1, hc2, h⟩ := h
  refine x_callVI (pc := 2) 327 hc2 ok_X7_isVertex dX7_survivor_2 tb_848 ⟨⟨rfl, rfl⟩, ⟨by decide, by decide⟩, by decide, by decide⟩ (mK hG (by decide)) (mc_327 hG _) rfl (As := [.int a1]) rfl rfl (Nat.le_of_ble_eq_true rfl) (fun r3 m4 q5 => ?_)
  have h := h r3 m4 q5
  refine x_if_ne (pc := 5) (tgt := 10) dX7_survivor_5 (by decide) (fun c6 => ?_) (fun c6 => ?_)
  · have h := h.1 c6
    refine x_aload_n (pc := 10) dX7_survivor_10 0 rfl rfl ?_
    refine x_aload_n (pc := 11) dX7_survivor_11 0 rfl rfl ?_
    refine x_get (pc := 12) 327 5 dX7_survivor_12 (mK hG (by decide)) (mc_327 hG _) rfl inX7 (by decide) tb_716 rfl rfl ?_
    refine x_iload_n (pc := 15) dX7_survivor_15 1 rfl rfl ?_
    obtain ⟨Q7, hc8, h⟩ := h
    refine x_callVV (pc := 16) 327 hc8 ok_X7_contract dX7_survivor_16 tb_953 ⟨⟨rfl, rfl⟩, ⟨by decide, by decide⟩, by decide, by decide⟩ (mK hG (by decide)) (mc_327 hG _) rfl (As := [.ref (gA G 329), .int a1]) rfl rfl (Nat.le_of_ble_eq_true rfl) (fun m10 q11 => ?_)
    have h := h m10 q11
    refine x_aload_n (pc := 19) dX7_survivor_19 0 rfl rfl ?_
    refine x_get (pc := 20) 327 22 dX7_survivor_20 (mK hG (by decide)) (mc_327 hG _) rfl inX7 (by decide) tb_733 rfl rfl ?_
    exact x_endI (pc := 23) dX7_survivor_23 rfl h
  · have h := h.2 c6
    refine x_iconst (pc := 8) (v := (-1)) dX7_survivor_8 (by decide) ?_
    exact x_endI (pc := 9) dX7_survivor_9 rfl h
set_option maxRecDepth 100000 in
set_option maxHeartbeats 4000000 in
theorem t_X7_weightWith_0 {l : Launch} {G : Gx} {P : Int32 → Mem → Prop} (hG : Mn G) {r : Nat} (hr : Ra G r) (a2 : Int32) (mem : Mem)
    (h : ∃ Q1 : Mem → Prop, CtV l M_X7_layFar G [.ref (gA G 327), .ref (gA G r), .int a2] mem Q1 ∧ ∀ m4 : Mem, Q1 m4 → (XI l M_X7_weightWith G P m4 11 [(0, .ref (gA G 327)), (1, .ref (gA G r)), (3, .int 0), (4, .int 0)] [])) :
    XI l M_X7_weightWith G P mem 0 [(0, .ref (gA G 327)), (1, .ref (gA G r)), (2, .int a2)] [] := by
  refine x_aload_n (pc := 0) dX7_weightWith_0 0 rfl rfl ?_
  refine x_aload_n (pc := 1) dX7_weightWith_1 1 rfl rfl ?_
  refine x_iload_n (pc := 2) dX7_weightWith_2 2 rfl rfl ?_
  obtain ⟨Q1, hc2, h⟩ := h
  refine x_callVV (pc := 3) 327 hc2 ok_X7_layFar dX7_weightWith_3 tb_824 ⟨⟨rfl, rfl⟩, ⟨by decide, by decide⟩, by decide, by decide⟩ (mK hG (by decide)) (mc_327 hG _) rfl (As := [.ref (gA G r), .int a2]) rfl rfl (Nat.le_of_ble_eq_true rfl) (fun m4 q5 => ?_)
  have h := h m4 q5
  refine x_iconst (pc := 6) (v := 0) dX7_weightWith_6 (by decide) ?_
  refine x_istore_n (pc := 7) dX7_weightWith_7 rfl (by decide) rfl ?_
  refine x_iconst (pc := 8) (v := 0) dX7_weightWith_8 (by decide) ?_
  refine x_istore (pc := 9) dX7_weightWith_9 (by decide) rfl ?_
  exact x_sub [2, 3, 1, 0] rfl h
set_option maxRecDepth 100000 in
set_option maxHeartbeats 4000000 in
theorem t_X7_weightWith_11 {l : Launch} {G : Gx} {P : Int32 → Mem → Prop} (hG : Mn G) {r : Nat} (hr : Ra G r) (a3 : Int32) (a4 : Int32) (mem : Mem)
    (h : ((mem 327 3) ≤ a4 → (P a3 mem)) ∧ (¬ (mem 327 3) ≤ a4 → (vp_in a4 12 ∧ ((¬ (mem 336 a4.toNatClampNeg) = (-9) → (vp_in a4 156 ∧ (XI l M_X7_weightWith G P mem 11 [(0, .ref (gA G 327)), (1, .ref (gA G r)), (3, .int (a3 + (mem r a4.toNatClampNeg))), (4, .int (a4 + 1))] []))) ∧ ((mem 336 a4.toNatClampNeg) = (-9) → (XI l M_X7_weightWith G P mem 11 [(0, .ref (gA G 327)), (1, .ref (gA G r)), (3, .int (a3 + 0)), (4, .int (a4 + 1))] [])))))) :
    XI l M_X7_weightWith G P mem 11 [(0, .ref (gA G 327)), (1, .ref (gA G r)), (3, .int a3), (4, .int a4)] [] := by
  refine x_iload (pc := 11) dX7_weightWith_11 3 rfl ?_
  refine x_aload_n (pc := 13) dX7_weightWith_13 0 rfl rfl ?_
  refine x_get (pc := 14) 327 3 dX7_weightWith_14 (mK hG (by decide)) (mc_327 hG _) rfl inX7 (by decide) tb_714 rfl rfl ?_
  refine x_icmp_ge (pc := 17) (tgt := 49) dX7_weightWith_17 (by decide) (fun c1 => ?_) (fun c1 => ?_)
  · have h := h.1 c1
    refine x_iload_n (pc := 49) dX7_weightWith_49 2 rfl rfl ?_
    exact x_endI (pc := 50) dX7_weightWith_50 rfl h
  · have h := h.2 c1
    refine x_iload_n (pc := 20) dX7_weightWith_20 2 rfl rfl ?_
    refine x_aload_n (pc := 21) dX7_weightWith_21 0 rfl rfl ?_
    refine x_get (pc := 22) 327 15 dX7_weightWith_22 (mK hG (by decide)) (mc_327 hG _) rfl inX7 (by decide) tb_726 rfl rfl ?_
    refine x_iload (pc := 25) dX7_weightWith_25 3 rfl ?_
    have n2 := h.1
    refine x_iald (pc := 27) 336 dX7_weightWith_27 (mK hG (by decide)) (mc_336 hG _) n2 ?_
    have h := h.2
    refine x_bipush (pc := 28) (v := (-9)) dX7_weightWith_28 (by decide) ?_
    refine x_icmp_ne (pc := 30) (tgt := 37) dX7_weightWith_30 (by decide) (fun c3 => ?_) (fun c3 => ?_)
    · have h := h.1 c3
      refine x_aload_n (pc := 37) dX7_weightWith_37 1 rfl rfl ?_
      refine x_iload (pc := 38) dX7_weightWith_38 3 rfl ?_
      have n4 := h.1
      refine x_iald (pc := 40) r dX7_weightWith_40 (Ra_K hr) (Ra_c hr _) n4 ?_
      have h := h.2
      refine x_iadd (pc := 41) dX7_weightWith_41 ?_
      refine x_istore_n (pc := 42) dX7_weightWith_42 rfl (by decide) rfl ?_
      refine x_iinc (pc := 43) (v := (a4 + 1)) dX7_weightWith_43 (k := 3) rfl rfl (by decide) rfl ?_
      refine x_goto (pc := 46) (tgt := 11) dX7_weightWith_46 (by decide) ?_
      exact x_sub [2, 3, 1, 0] rfl h
    · have h := h.2 c3
      refine x_iconst (pc := 33) (v := 0) dX7_weightWith_33 (by decide) ?_
      refine x_goto (pc := 34) (tgt := 41) dX7_weightWith_34 (by decide) ?_
      refine x_iadd (pc := 41) dX7_weightWith_41 ?_
      refine x_istore_n (pc := 42) dX7_weightWith_42 rfl (by decide) rfl ?_
      refine x_iinc (pc := 43) (v := (a4 + 1)) dX7_weightWith_43 (k := 3) rfl rfl (by decide) rfl ?_
      refine x_goto (pc := 46) (tgt := 11) dX7_weightWith_46 (by decide) ?_
      exact x_sub [2, 3, 1, 0] rfl h
set_option maxRecDepth 100000 in
set_option maxHeartbeats 4000000 in
theorem t_X7_balancedCut_0 {l : Launch} {G : Gx} {P : Int32 → Mem → Prop} (hG : Mn G) (a1 : Int32) (mem : Mem)
    (h : ∃ Q1 : Int32 → Mem → Prop, CtI l M_X7_isVertex G [.ref (gA G 327), .int a1] mem Q1 ∧ ∀ (r3 : Int32) (m4 : Mem), Q1 r3 m4 → ((¬ r3 = 0 → (XI l M_X7_balancedCut G P m4 18 [(0, .ref (gA G 327)), (1, .int a1), (2, .int (-9)), (3, .int 0), (4, .int 0)] [])) ∧ (r3 = 0 → (P (-1) m4)))) :
    XI l M_X7_balancedCut G P mem 0 [(0, .ref (gA G 327)), (1, .int a1)] [] := by
  refine x_aload_n (pc := 0) dX7_balancedCut_0 0 rfl rfl ?_
  refine x_iload_n (pc := 1) dX7_balancedCut_1 1 rfl rfl ?_
  obtain ⟨Q1, hc2, h⟩ := h
  refine x_callVI (pc := 2) 327 hc2 ok_X7_isVertex dX7_balancedCut_2 tb_848 ⟨⟨rfl, rfl⟩, ⟨by decide, by decide⟩, by decide, by decide⟩ (mK hG (by decide)) (mc_327 hG _) rfl (As := [.int a1]) rfl rfl (Nat.le_of_ble_eq_true rfl) (fun r3 m4 q5 => ?_)
  have h := h r3 m4 q5
  refine x_if_ne (pc := 5) (tgt := 10) dX7_balancedCut_5 (by decide) (fun c6 => ?_) (fun c6 => ?_)
  · have h := h.1 c6
    refine x_bipush (pc := 10) (v := (-9)) dX7_balancedCut_10 (by decide) ?_
    refine x_istore_n (pc := 12) dX7_balancedCut_12 rfl (by decide) rfl ?_
    refine x_iconst (pc := 13) (v := 0) dX7_balancedCut_13 (by decide) ?_
    refine x_istore_n (pc := 14) dX7_balancedCut_14 rfl (by decide) rfl ?_
    refine x_iconst (pc := 15) (v := 0) dX7_balancedCut_15 (by decide) ?_
    refine x_istore (pc := 16) dX7_balancedCut_16 (by decide) rfl ?_
    exact x_sub [3, 4, 2, 1, 0] rfl h
  · have h := h.2 c6
    refine x_iconst (pc := 8) (v := (-1)) dX7_balancedCut_8 (by decide) ?_
    exact x_endI (pc := 9) dX7_balancedCut_9 rfl h
set_option maxRecDepth 100000 in
set_option maxHeartbeats 4000000 in
theorem t_X7_balancedCut_18 {l : Launch} {G : Gx} {P : Int32 → Mem → Prop} (hG : Mn G) (a1 : Int32) (a2 : Int32) (a3 : Int32) (a4 : Int32) (mem : Mem)
    (h : ((mem 327 3) ≤ a4 → (P a2 mem)) ∧ (¬ (mem 327 3) ≤ a4 → (XI l M_X7_balancedCut G P mem 33 [(0, .ref (gA G 327)), (1, .int a1), (2, .int a2), (3, .int a3), (4, .int a4), (5, .int (a4 + 1))] []))) :
    XI l M_X7_balancedCut G P mem 18 [(0, .ref (gA G 327)), (1, .int a1), (2, .int a2), (3, .int a3), (4, .int a4)] [] := by
  refine x_iload (pc := 18) dX7_balancedCut_18 4 rfl ?_
  refine x_aload_n (pc := 20) dX7_balancedCut_20 0 rfl rfl ?_
  refine x_get (pc := 21) 327 3 dX7_balancedCut_21 (mK hG (by decide)) (mc_327 hG _) rfl inX7 (by decide) tb_714 rfl rfl ?_
  refine x_icmp_ge (pc := 24) (tgt := 190) dX7_balancedCut_24 (by decide) (fun c1 => ?_) (fun c1 => ?_)
  · have h := h.1 c1
    refine x_iload_n (pc := 190) dX7_balancedCut_190 2 rfl rfl ?_
    exact x_endI (pc := 191) dX7_balancedCut_191 rfl h
  · have h := h.2 c1
    refine x_iload (pc := 27) dX7_balancedCut_27 4 rfl ?_
    refine x_iconst (pc := 29) (v := 1) dX7_balancedCut_29 (by decide) ?_
    refine x_iadd (pc := 30) dX7_balancedCut_30 ?_
    refine x_istore (pc := 31) dX7_balancedCut_31 (by decide) rfl ?_
    exact x_sub [1, 2, 3, 4, 5, 0] rfl h
set_option maxRecDepth 100000 in
set_option maxHeartbeats 4000000 in
theorem t_X7_balancedCut_33 {l : Launch} {G : Gx} {P : Int32 → Mem → Prop} (hG : Mn G) (a1 : Int32) (a2 : Int32) (a3 : Int32) (a4 : Int32) (a5 : Int32) (mem : Mem)
    (h : ((mem 327 3) ≤ a5 → (XI l M_X7_balancedCut G P mem 18 [(0, .ref (gA G 327)), (1, .int a1), (2, .int a2), (3, .int a3), (4, .int (a4 + 1))] [])) ∧ (¬ (mem 327 3) ≤ a5 → (∃ Q2 : Int32 → Mem → Prop, CtI l M_X7_at G [.int a4, .int a5] mem Q2 ∧ ∀ (r4 : Int32) (m5 : Mem), Q2 r4 m5 → (vp_in r4 156 ∧ (((m5 329 r4.toNatClampNeg) ≤ 0 → (XI l M_X7_balancedCut G P m5 33 [(0, .ref (gA G 327)), (1, .int a1), (2, .int a2), (3, .int a3), (4, .int a4), (5, .int (a5 + 1))] [])) ∧ (¬ (m5 329 r4.toNatClampNeg) ≤ 0 → (∃ Q9 : Int32 → Mem → Prop, CtI l M_X7_isOneTree G [.ref (gA G 327), .ref (gA G 329), .int a1, .int a4] m5 Q9 ∧ ∀ (r11 : Int32) (m12 : Mem), Q9 r11 m12 → ((r11 = 0 → (XI l M_X7_balancedCut G P m12 33 [(0, .ref (gA G 327)), (1, .int a1), (2, .int a2), (3, .int a3), (4, .int a4), (5, .int (a5 + 1))] [])) ∧ (¬ r11 = 0 → (∃ Q15 : Mem → Prop, CtV l M_X7_copy G [.ref (gA G 329), .ref (gA G 330)] m12 Q15 ∧ ∀ m18 : Mem, Q15 m18 → (∃ Q20 : Mem → Prop, CtV l M_X7_join G [.ref (gA G 330), .int a4, .int a5, .int 0] m18 Q20 ∧ ∀ m23 : Mem, Q20 m23 → (∃ Q25 : Int32 → Mem → Prop, CtI l M_X7_weightWith G [.ref (gA G 327), .ref (gA G 330), .int a4] m23 Q25 ∧ ∀ (r27 : Int32) (m28 : Mem), Q25 r27 m28 → (∃ Q30 : Int32 → Mem → Prop, CtI l M_X7_weightWith G [.ref (gA G 327), .ref (gA G 330), .int a5] m28 Q30 ∧ ∀ (r32 : Int32) (m33 : Mem), Q30 r32 m33 → ((r27 ≤ r32 → ((a2 = (-9) → ((¬ ((100 * a4) + a5) = ((100 * a4) + a5) → (XI l M_X7_balancedCut G P m33 33 [(0, .ref (gA G 327)), (1, .int a1), (2, .int ((100 * a4) + a5)), (3, .int a3), (4, .int a4), (5, .int (a5 + 1))] [])) ∧ (((100 * a4) + a5) = ((100 * a4) + a5) → (XI l M_X7_balancedCut G P m33 33 [(0, .ref (gA G 327)), (1, .int a1), (2, .int ((100 * a4) + a5)), (3, .int r32), (4, .int a4), (5, .int (a5 + 1))] [])))) ∧ (¬ a2 = (-9) → ((a3 ≤ r32 → ((¬ a2 = ((100 * a4) + a5) → (XI l M_X7_balancedCut G P m33 33 [(0, .ref (gA G 327)), (1, .int a1), (2, .int a2), (3, .int a3), (4, .int a4), (5, .int (a5 + 1))] [])) ∧ (a2 = ((100 * a4) + a5) → (XI l M_X7_balancedCut G P m33 33 [(0, .ref (gA G 327)), (1, .int a1), (2, .int a2), (3, .int r32), (4, .int a4), (5, .int (a5 + 1))] [])))) ∧ (¬ a3 ≤ r32 → ((¬ ((100 * a4) + a5) = ((100 * a4) + a5) → (XI l M_X7_balancedCut G P m33 33 [(0, .ref (gA G 327)), (1, .int a1), (2, .int ((100 * a4) + a5)), (3, .int a3), (4, .int a4), (5, .int (a5 + 1))] [])) ∧ (((100 * a4) + a5) = ((100 * a4) + a5) → (XI l M_X7_balancedCut G P m33 33 [(0, .ref (gA G 327)), (1, .int a1), (2, .int ((100 * a4) + a5)), (3, .int r32), (4, .int a4), (5, .int (a5 + 1))] [])))))))) ∧ (¬ r27 ≤ r32 → ((a2 = (-9) → ((¬ ((100 * a4) + a5) = ((100 * a4) + a5) → (XI l M_X7_balancedCut G P m33 33 [(0, .ref (gA G 327)), (1, .int a1), (2, .int ((100 * a4) + a5)), (3, .int a3), (4, .int a4), (5, .int (a5 + 1))] [])) ∧ (((100 * a4) + a5) = ((100 * a4) + a5) → (XI l M_X7_balancedCut G P m33 33 [(0, .ref (gA G 327)), (1, .int a1), (2, .int ((100 * a4) + a5)), (3, .int r27), (4, .int a4), (5, .int (a5 + 1))] [])))) ∧ (¬ a2 = (-9) → ((a3 ≤ r27 → ((¬ a2 = ((100 * a4) + a5) → (XI l M_X7_balancedCut G P m33 33 [(0, .ref (gA G 327)), (1, .int a1), (2, .int a2), (3, .int a3), (4, .int a4), (5, .int (a5 + 1))] [])) ∧ (a2 = ((100 * a4) + a5) → (XI l M_X7_balancedCut G P m33 33 [(0, .ref (gA G 327)), (1, .int a1), (2, .int a2), (3, .int r27), (4, .int a4), (5, .int (a5 + 1))] [])))) ∧ (¬ a3 ≤ r27 → ((¬ ((100 * a4) + a5) = ((100 * a4) + a5) → (XI l M_X7_balancedCut G P m33 33 [(0, .ref (gA G 327)), (1, .int a1), (2, .int ((100 * a4) + a5)), (3, .int a3), (4, .int a4), (5, .int (a5 + 1))] [])) ∧ (((100 * a4) + a5) = ((100 * a4) + a5) → (XI l M_X7_balancedCut G P m33 33 [(0, .ref (gA G 327)), (1, .int a1), (2, .int ((100 * a4) + a5)), (3, .int r27), (4, .int a4), (5, .int (a5 + 1))] [])))))))))))))))))))))) :
    XI l M_X7_balancedCut G P mem 33 [(0, .ref (gA G 327)), (1, .int a1), (2, .int a2), (3, .int a3), (4, .int a4), (5, .int a5)] [] := by
  refine x_iload (pc := 33) dX7_balancedCut_33 5 rfl ?_
  refine x_aload_n (pc := 35) dX7_balancedCut_35 0 rfl rfl ?_
  refine x_get (pc := 36) 327 3 dX7_balancedCut_36 (mK hG (by decide)) (mc_327 hG _) rfl inX7 (by decide) tb_714 rfl rfl ?_
  refine x_icmp_ge (pc := 39) (tgt := 184) dX7_balancedCut_39 (by decide) (fun c1 => ?_) (fun c1 => ?_)
  · have h := h.1 c1
    refine x_iinc (pc := 184) (v := (a4 + 1)) dX7_balancedCut_184 (k := 4) rfl rfl (by decide) rfl ?_
    refine x_goto (pc := 187) (tgt := 18) dX7_balancedCut_187 (by decide) ?_
    exact x_sub [1, 2, 3, 4, 0] rfl h
  · have h := h.2 c1
    refine x_aload_n (pc := 42) dX7_balancedCut_42 0 rfl rfl ?_
    refine x_get (pc := 43) 327 5 dX7_balancedCut_43 (mK hG (by decide)) (mc_327 hG _) rfl inX7 (by decide) tb_716 rfl rfl ?_
    refine x_iload (pc := 46) dX7_balancedCut_46 4 rfl ?_
    refine x_iload (pc := 48) dX7_balancedCut_48 5 rfl ?_
    obtain ⟨Q2, hc3, h⟩ := h
    refine x_callSI (pc := 50) hc3 ok_X7_at dX7_balancedCut_50 tb_828 ⟨⟨rfl, rfl⟩, ⟨by decide, by decide⟩, by decide, by decide⟩ rfl rfl (Nat.le_of_ble_eq_true rfl) (fun r4 m5 q6 => ?_)
    have h := h r4 m5 q6
    have n7 := h.1
    refine x_iald (pc := 53) 329 dX7_balancedCut_53 (mK hG (by decide)) (mc_329 hG _) n7 ?_
    have h := h.2
    refine x_if_le (pc := 54) (tgt := 178) dX7_balancedCut_54 (by decide) (fun c8 => ?_) (fun c8 => ?_)
    · have h := h.1 c8
      refine x_iinc (pc := 178) (v := (a5 + 1)) dX7_balancedCut_178 (k := 5) rfl rfl (by decide) rfl ?_
      refine x_goto (pc := 181) (tgt := 33) dX7_balancedCut_181 (by decide) ?_
      exact x_sub [1, 2, 3, 4, 5, 0] rfl h
    · have h := h.2 c8
      refine x_aload_n (pc := 57) dX7_balancedCut_57 0 rfl rfl ?_
      refine x_aload_n (pc := 58) dX7_balancedCut_58 0 rfl rfl ?_
      refine x_get (pc := 59) 327 5 dX7_balancedCut_59 (mK hG (by decide)) (mc_327 hG _) rfl inX7 (by decide) tb_716 rfl rfl ?_
      refine x_iload_n (pc := 62) dX7_balancedCut_62 1 rfl rfl ?_
      refine x_iload (pc := 63) dX7_balancedCut_63 4 rfl ?_
      obtain ⟨Q9, hc10, h⟩ := h
      refine x_callVI (pc := 65) 327 hc10 ok_X7_isOneTree dX7_balancedCut_65 tb_816 ⟨⟨rfl, rfl⟩, ⟨by decide, by decide⟩, by decide, by decide⟩ (mK hG (by decide)) (mc_327 hG _) rfl (As := [.ref (gA G 329), .int a1, .int a4]) rfl rfl (Nat.le_of_ble_eq_true rfl) (fun r11 m12 q13 => ?_)
      have h := h r11 m12 q13
      refine x_if_eq (pc := 68) (tgt := 178) dX7_balancedCut_68 (by decide) (fun c14 => ?_) (fun c14 => ?_)
      · have h := h.1 c14
        refine x_iinc (pc := 178) (v := (a5 + 1)) dX7_balancedCut_178 (k := 5) rfl rfl (by decide) rfl ?_
        refine x_goto (pc := 181) (tgt := 33) dX7_balancedCut_181 (by decide) ?_
        exact x_sub [1, 2, 3, 4, 5, 0] rfl h
      · have h := h.2 c14
        refine x_aload_n (pc := 71) dX7_balancedCut_71 0 rfl rfl ?_
        refine x_get (pc := 72) 327 5 dX7_balancedCut_72 (mK hG (by decide)) (mc_327 hG _) rfl inX7 (by decide) tb_716 rfl rfl ?_
        refine x_aload_n (pc := 75) dX7_balancedCut_75 0 rfl rfl ?_
        refine x_get (pc := 76) 327 6 dX7_balancedCut_76 (mK hG (by decide)) (mc_327 hG _) rfl inX7 (by decide) tb_717 rfl rfl ?_
        obtain ⟨Q15, hc16, h⟩ := h
        refine x_callSV (pc := 79) hc16 ok_X7_copy dX7_balancedCut_79 tb_838 ⟨⟨rfl, rfl⟩, ⟨by decide, by decide⟩, by decide, by decide⟩ rfl rfl (Nat.le_of_ble_eq_true rfl) (fun m18 q19 => ?_)
        have h := h m18 q19
        refine x_aload_n (pc := 82) dX7_balancedCut_82 0 rfl rfl ?_
        refine x_get (pc := 83) 327 6 dX7_balancedCut_83 (mK hG (by decide)) (mc_327 hG _) rfl inX7 (by decide) tb_717 rfl rfl ?_
        refine x_iload (pc := 86) dX7_balancedCut_86 4 rfl ?_
        refine x_iload (pc := 88) dX7_balancedCut_88 5 rfl ?_
        refine x_iconst (pc := 90) (v := 0) dX7_balancedCut_90 (by decide) ?_
        obtain ⟨Q20, hc21, h⟩ := h
        refine x_callSV (pc := 91) hc21 ok_X7_join dX7_balancedCut_91 tb_831 ⟨⟨rfl, rfl⟩, ⟨by decide, by decide⟩, by decide, by decide⟩ rfl rfl (Nat.le_of_ble_eq_true rfl) (fun m23 q24 => ?_)
        have h := h m23 q24
        refine x_aload_n (pc := 94) dX7_balancedCut_94 0 rfl rfl ?_
        refine x_aload_n (pc := 95) dX7_balancedCut_95 0 rfl rfl ?_
        refine x_get (pc := 96) 327 6 dX7_balancedCut_96 (mK hG (by decide)) (mc_327 hG _) rfl inX7 (by decide) tb_717 rfl rfl ?_
        refine x_iload (pc := 99) dX7_balancedCut_99 4 rfl ?_
        obtain ⟨Q25, hc26, h⟩ := h
        refine x_callVI (pc := 101) 327 hc26 ok_X7_weightWith dX7_balancedCut_101 tb_993 ⟨⟨rfl, rfl⟩, ⟨by decide, by decide⟩, by decide, by decide⟩ (mK hG (by decide)) (mc_327 hG _) rfl (As := [.ref (gA G 330), .int a4]) rfl rfl (Nat.le_of_ble_eq_true rfl) (fun r27 m28 q29 => ?_)
        have h := h r27 m28 q29
        refine x_istore (pc := 104) dX7_balancedCut_104 (by decide) rfl ?_
        refine x_aload_n (pc := 106) dX7_balancedCut_106 1 rfl rfl ?_
        refine x_aload_n (pc := 107) dX7_balancedCut_107 1 rfl rfl ?_
        refine x_get (pc := 108) 327 6 dX7_balancedCut_108 (mK hG (by decide)) (mc_327 hG _) rfl inX7 (by decide) tb_717 rfl rfl ?_
        refine x_iload (pc := 111) dX7_balancedCut_111 6 rfl ?_
        obtain ⟨Q30, hc31, h⟩ := h
        refine x_callVI (pc := 113) 327 hc31 ok_X7_weightWith dX7_balancedCut_113 tb_993 ⟨⟨rfl, rfl⟩, ⟨by decide, by decide⟩, by decide, by decide⟩ (mK hG (by decide)) (mc_327 hG _) rfl (As := [.ref (gA G 330), .int a5]) rfl rfl (Nat.le_of_ble_eq_true rfl) (fun r32 m33 q34 => ?_)
        have h := h r32 m33 q34
        refine x_istore (pc := 116) dX7_balancedCut_116 (by decide) rfl ?_
        refine x_iload (pc := 118) dX7_balancedCut_118 1 rfl ?_
        refine x_iload (pc := 120) dX7_balancedCut_120 0 rfl ?_
        refine x_icmp_le (pc := 122) (tgt := 130) dX7_balancedCut_122 (by decide) (fun c35 => ?_) (fun c35 => ?_)
        · have h := h.1 c35
          refine x_iload (pc := 130) dX7_balancedCut_130 0 rfl ?_
          refine x_istore (pc := 132) dX7_balancedCut_132 (by decide) rfl ?_
          refine x_iload_n (pc := 134) dX7_balancedCut_134 5 rfl rfl ?_
          refine x_bipush (pc := 135) (v := (-9)) dX7_balancedCut_135 (by decide) ?_
          refine x_icmp_eq (pc := 137) (tgt := 146) dX7_balancedCut_137 (by decide) (fun c36 => ?_) (fun c36 => ?_)
          · have h := h.1 c36
            refine x_bipush (pc := 146) (v := 100) dX7_balancedCut_146 (by decide) ?_
            refine x_iload (pc := 148) dX7_balancedCut_148 7 rfl ?_
            refine x_imul (pc := 150) dX7_balancedCut_150 ?_
            refine x_iload (pc := 151) dX7_balancedCut_151 8 rfl ?_
            refine x_iadd (pc := 153) dX7_balancedCut_153 ?_
            refine x_goto (pc := 154) (tgt := 158) dX7_balancedCut_154 (by decide) ?_
            refine x_istore_n (pc := 158) dX7_balancedCut_158 rfl (by decide) rfl ?_
            refine x_iload_n (pc := 159) dX7_balancedCut_159 0 rfl rfl ?_
            refine x_bipush (pc := 160) (v := 100) dX7_balancedCut_160 (by decide) ?_
            refine x_iload (pc := 162) dX7_balancedCut_162 7 rfl ?_
            refine x_imul (pc := 164) dX7_balancedCut_164 ?_
            refine x_iload (pc := 165) dX7_balancedCut_165 8 rfl ?_
            refine x_iadd (pc := 167) dX7_balancedCut_167 ?_
            refine x_icmp_ne (pc := 168) (tgt := 176) dX7_balancedCut_168 (by decide) (fun c37 => ?_) (fun c37 => ?_)
            · have h := h.1 c37
              refine x_iload_n (pc := 176) dX7_balancedCut_176 6 rfl rfl ?_
              refine x_istore_n (pc := 177) dX7_balancedCut_177 rfl (by decide) rfl ?_
              refine x_iinc (pc := 178) (v := (a5 + 1)) dX7_balancedCut_178 (k := 8) rfl rfl (by decide) rfl ?_
              refine x_goto (pc := 181) (tgt := 33) dX7_balancedCut_181 (by decide) ?_
              exact x_sub [6, 7, 2, 1, 8, 0] rfl h
            · have h := h.2 c37
              refine x_iload (pc := 171) dX7_balancedCut_171 1 rfl ?_
              refine x_goto (pc := 173) (tgt := 177) dX7_balancedCut_173 (by decide) ?_
              refine x_istore_n (pc := 177) dX7_balancedCut_177 rfl (by decide) rfl ?_
              refine x_iinc (pc := 178) (v := (a5 + 1)) dX7_balancedCut_178 (k := 8) rfl rfl (by decide) rfl ?_
              refine x_goto (pc := 181) (tgt := 33) dX7_balancedCut_181 (by decide) ?_
              exact x_sub [6, 7, 2, 1, 8, 0] rfl h
          · have h := h.2 c36
            refine x_iload (pc := 140) dX7_balancedCut_140 0 rfl ?_
            refine x_iload_n (pc := 142) dX7_balancedCut_142 6 rfl rfl ?_
            refine x_icmp_ge (pc := 143) (tgt := 157) dX7_balancedCut_143 (by decide) (fun c38 => ?_) (fun c38 => ?_)
            · have h := h.1 c38
              refine x_iload_n (pc := 157) dX7_balancedCut_157 5 rfl rfl ?_
              refine x_istore_n (pc := 158) dX7_balancedCut_158 rfl (by decide) rfl ?_
              refine x_iload_n (pc := 159) dX7_balancedCut_159 0 rfl rfl ?_
              refine x_bipush (pc := 160) (v := 100) dX7_balancedCut_160 (by decide) ?_
              refine x_iload (pc := 162) dX7_balancedCut_162 7 rfl ?_
              refine x_imul (pc := 164) dX7_balancedCut_164 ?_
              refine x_iload (pc := 165) dX7_balancedCut_165 8 rfl ?_
              refine x_iadd (pc := 167) dX7_balancedCut_167 ?_
              refine x_icmp_ne (pc := 168) (tgt := 176) dX7_balancedCut_168 (by decide) (fun c39 => ?_) (fun c39 => ?_)
              · have h := h.1 c39
                refine x_iload_n (pc := 176) dX7_balancedCut_176 6 rfl rfl ?_
                refine x_istore_n (pc := 177) dX7_balancedCut_177 rfl (by decide) rfl ?_
                refine x_iinc (pc := 178) (v := (a5 + 1)) dX7_balancedCut_178 (k := 8) rfl rfl (by decide) rfl ?_
                refine x_goto (pc := 181) (tgt := 33) dX7_balancedCut_181 (by decide) ?_
                exact x_sub [6, 7, 2, 1, 8, 0] rfl h
              · have h := h.2 c39
                refine x_iload (pc := 171) dX7_balancedCut_171 1 rfl ?_
                refine x_goto (pc := 173) (tgt := 177) dX7_balancedCut_173 (by decide) ?_
                refine x_istore_n (pc := 177) dX7_balancedCut_177 rfl (by decide) rfl ?_
                refine x_iinc (pc := 178) (v := (a5 + 1)) dX7_balancedCut_178 (k := 8) rfl rfl (by decide) rfl ?_
                refine x_goto (pc := 181) (tgt := 33) dX7_balancedCut_181 (by decide) ?_
                exact x_sub [6, 7, 2, 1, 8, 0] rfl h
            · have h := h.2 c38
              refine x_bipush (pc := 146) (v := 100) dX7_balancedCut_146 (by decide) ?_
              refine x_iload (pc := 148) dX7_balancedCut_148 7 rfl ?_
              refine x_imul (pc := 150) dX7_balancedCut_150 ?_
              refine x_iload (pc := 151) dX7_balancedCut_151 8 rfl ?_
              refine x_iadd (pc := 153) dX7_balancedCut_153 ?_
              refine x_goto (pc := 154) (tgt := 158) dX7_balancedCut_154 (by decide) ?_
              refine x_istore_n (pc := 158) dX7_balancedCut_158 rfl (by decide) rfl ?_
              refine x_iload_n (pc := 159) dX7_balancedCut_159 0 rfl rfl ?_
              refine x_bipush (pc := 160) (v := 100) dX7_balancedCut_160 (by decide) ?_
              refine x_iload (pc := 162) dX7_balancedCut_162 7 rfl ?_
              refine x_imul (pc := 164) dX7_balancedCut_164 ?_
              refine x_iload (pc := 165) dX7_balancedCut_165 8 rfl ?_
              refine x_iadd (pc := 167) dX7_balancedCut_167 ?_
              refine x_icmp_ne (pc := 168) (tgt := 176) dX7_balancedCut_168 (by decide) (fun c40 => ?_) (fun c40 => ?_)
              · have h := h.1 c40
                refine x_iload_n (pc := 176) dX7_balancedCut_176 6 rfl rfl ?_
                refine x_istore_n (pc := 177) dX7_balancedCut_177 rfl (by decide) rfl ?_
                refine x_iinc (pc := 178) (v := (a5 + 1)) dX7_balancedCut_178 (k := 8) rfl rfl (by decide) rfl ?_
                refine x_goto (pc := 181) (tgt := 33) dX7_balancedCut_181 (by decide) ?_
                exact x_sub [6, 7, 2, 1, 8, 0] rfl h
              · have h := h.2 c40
                refine x_iload (pc := 171) dX7_balancedCut_171 1 rfl ?_
                refine x_goto (pc := 173) (tgt := 177) dX7_balancedCut_173 (by decide) ?_
                refine x_istore_n (pc := 177) dX7_balancedCut_177 rfl (by decide) rfl ?_
                refine x_iinc (pc := 178) (v := (a5 + 1)) dX7_balancedCut_178 (k := 8) rfl rfl (by decide) rfl ?_
                refine x_goto (pc := 181) (tgt := 33) dX7_balancedCut_181 (by decide) ?_
                exact x_sub [6, 7, 2, 1, 8, 0] rfl h
        · have h := h.2 c35
          refine x_iload (pc := 125) dX7_balancedCut_125 1 rfl ?_
          refine x_goto (pc := 127) (tgt := 132) dX7_balancedCut_127 (by decide) ?_
          refine x_istore (pc := 132) dX7_balancedCut_132 (by decide) rfl ?_
          refine x_iload_n (pc := 134) dX7_balancedCut_134 5 rfl rfl ?_
          refine x_bipush (pc := 135) (v := (-9)) dX7_balancedCut_135 (by decide) ?_
          refine x_icmp_eq (pc := 137) (tgt := 146) dX7_balancedCut_137 (by decide) (fun c41 => ?_) (fun c41 => ?_)
          · have h := h.1 c41
            refine x_bipush (pc := 146) (v := 100) dX7_balancedCut_146 (by decide) ?_
            refine x_iload (pc := 148) dX7_balancedCut_148 7 rfl ?_
            refine x_imul (pc := 150) dX7_balancedCut_150 ?_
            refine x_iload (pc := 151) dX7_balancedCut_151 8 rfl ?_
            refine x_iadd (pc := 153) dX7_balancedCut_153 ?_
            refine x_goto (pc := 154) (tgt := 158) dX7_balancedCut_154 (by decide) ?_
            refine x_istore_n (pc := 158) dX7_balancedCut_158 rfl (by decide) rfl ?_
            refine x_iload_n (pc := 159) dX7_balancedCut_159 0 rfl rfl ?_
            refine x_bipush (pc := 160) (v := 100) dX7_balancedCut_160 (by decide) ?_
            refine x_iload (pc := 162) dX7_balancedCut_162 7 rfl ?_
            refine x_imul (pc := 164) dX7_balancedCut_164 ?_
            refine x_iload (pc := 165) dX7_balancedCut_165 8 rfl ?_
            refine x_iadd (pc := 167) dX7_balancedCut_167 ?_
            refine x_icmp_ne (pc := 168) (tgt := 176) dX7_balancedCut_168 (by decide) (fun c42 => ?_) (fun c42 => ?_)
            · have h := h.1 c42
              refine x_iload_n (pc := 176) dX7_balancedCut_176 6 rfl rfl ?_
              refine x_istore_n (pc := 177) dX7_balancedCut_177 rfl (by decide) rfl ?_
              refine x_iinc (pc := 178) (v := (a5 + 1)) dX7_balancedCut_178 (k := 8) rfl rfl (by decide) rfl ?_
              refine x_goto (pc := 181) (tgt := 33) dX7_balancedCut_181 (by decide) ?_
              exact x_sub [6, 7, 2, 1, 8, 0] rfl h
            · have h := h.2 c42
              refine x_iload (pc := 171) dX7_balancedCut_171 1 rfl ?_
              refine x_goto (pc := 173) (tgt := 177) dX7_balancedCut_173 (by decide) ?_
              refine x_istore_n (pc := 177) dX7_balancedCut_177 rfl (by decide) rfl ?_
              refine x_iinc (pc := 178) (v := (a5 + 1)) dX7_balancedCut_178 (k := 8) rfl rfl (by decide) rfl ?_
              refine x_goto (pc := 181) (tgt := 33) dX7_balancedCut_181 (by decide) ?_
              exact x_sub [6, 7, 2, 1, 8, 0] rfl h
          · have h := h.2 c41
            refine x_iload (pc := 140) dX7_balancedCut_140 0 rfl ?_
            refine x_iload_n (pc := 142) dX7_balancedCut_142 6 rfl rfl ?_
            refine x_icmp_ge (pc := 143) (tgt := 157) dX7_balancedCut_143 (by decide) (fun c43 => ?_) (fun c43 => ?_)
            · have h := h.1 c43
              refine x_iload_n (pc := 157) dX7_balancedCut_157 5 rfl rfl ?_
              refine x_istore_n (pc := 158) dX7_balancedCut_158 rfl (by decide) rfl ?_
              refine x_iload_n (pc := 159) dX7_balancedCut_159 0 rfl rfl ?_
              refine x_bipush (pc := 160) (v := 100) dX7_balancedCut_160 (by decide) ?_
              refine x_iload (pc := 162) dX7_balancedCut_162 7 rfl ?_
              refine x_imul (pc := 164) dX7_balancedCut_164 ?_
              refine x_iload (pc := 165) dX7_balancedCut_165 8 rfl ?_
              refine x_iadd (pc := 167) dX7_balancedCut_167 ?_
              refine x_icmp_ne (pc := 168) (tgt := 176) dX7_balancedCut_168 (by decide) (fun c44 => ?_) (fun c44 => ?_)
              · have h := h.1 c44
                refine x_iload_n (pc := 176) dX7_balancedCut_176 6 rfl rfl ?_
                refine x_istore_n (pc := 177) dX7_balancedCut_177 rfl (by decide) rfl ?_
                refine x_iinc (pc := 178) (v := (a5 + 1)) dX7_balancedCut_178 (k := 8) rfl rfl (by decide) rfl ?_
                refine x_goto (pc := 181) (tgt := 33) dX7_balancedCut_181 (by decide) ?_
                exact x_sub [6, 7, 2, 1, 8, 0] rfl h
              · have h := h.2 c44
                refine x_iload (pc := 171) dX7_balancedCut_171 1 rfl ?_
                refine x_goto (pc := 173) (tgt := 177) dX7_balancedCut_173 (by decide) ?_
                refine x_istore_n (pc := 177) dX7_balancedCut_177 rfl (by decide) rfl ?_
                refine x_iinc (pc := 178) (v := (a5 + 1)) dX7_balancedCut_178 (k := 8) rfl rfl (by decide) rfl ?_
                refine x_goto (pc := 181) (tgt := 33) dX7_balancedCut_181 (by decide) ?_
                exact x_sub [6, 7, 2, 1, 8, 0] rfl h
            · have h := h.2 c43
              refine x_bipush (pc := 146) (v := 100) dX7_balancedCut_146 (by decide) ?_
              refine x_iload (pc := 148) dX7_balancedCut_148 7 rfl ?_
              refine x_imul (pc := 150) dX7_balancedCut_150 ?_
              refine x_iload (pc := 151) dX7_balancedCut_151 8 rfl ?_
              refine x_iadd (pc := 153) dX7_balancedCut_153 ?_
              refine x_goto (pc := 154) (tgt := 158) dX7_balancedCut_154 (by decide) ?_
              refine x_istore_n (pc := 158) dX7_balancedCut_158 rfl (by decide) rfl ?_
              refine x_iload_n (pc := 159) dX7_balancedCut_159 0 rfl rfl ?_
              refine x_bipush (pc := 160) (v := 100) dX7_balancedCut_160 (by decide) ?_
              refine x_iload (pc := 162) dX7_balancedCut_162 7 rfl ?_
              refine x_imul (pc := 164) dX7_balancedCut_164 ?_
              refine x_iload (pc := 165) dX7_balancedCut_165 8 rfl ?_
              refine x_iadd (pc := 167) dX7_balancedCut_167 ?_
              refine x_icmp_ne (pc := 168) (tgt := 176) dX7_balancedCut_168 (by decide) (fun c45 => ?_) (fun c45 => ?_)
              · have h := h.1 c45
                refine x_iload_n (pc := 176) dX7_balancedCut_176 6 rfl rfl ?_
                refine x_istore_n (pc := 177) dX7_balancedCut_177 rfl (by decide) rfl ?_
                refine x_iinc (pc := 178) (v := (a5 + 1)) dX7_balancedCut_178 (k := 8) rfl rfl (by decide) rfl ?_
                refine x_goto (pc := 181) (tgt := 33) dX7_balancedCut_181 (by decide) ?_
                exact x_sub [6, 7, 2, 1, 8, 0] rfl h
              · have h := h.2 c45
                refine x_iload (pc := 171) dX7_balancedCut_171 1 rfl ?_
                refine x_goto (pc := 173) (tgt := 177) dX7_balancedCut_173 (by decide) ?_
                refine x_istore_n (pc := 177) dX7_balancedCut_177 rfl (by decide) rfl ?_
                refine x_iinc (pc := 178) (v := (a5 + 1)) dX7_balancedCut_178 (k := 8) rfl rfl (by decide) rfl ?_
                refine x_goto (pc := 181) (tgt := 33) dX7_balancedCut_181 (by decide) ?_
                exact x_sub [6, 7, 2, 1, 8, 0] rfl h
