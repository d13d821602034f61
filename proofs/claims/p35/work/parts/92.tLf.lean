set_option maxRecDepth 100000 in
set_option maxHeartbeats 4000000 in
theorem t_L_law_24 {l : Launch} {nm : String} {q : E5} {G : Gx} (hG : M2 G) (a3 : Int32) (a4 : Int32) (mem : Mem)
    (h : (7 ≤ a4 → (XLw l nm q G mem 138 [(3, .int a3)] [])) ∧ (¬ 7 ≤ a4 → ((a3 = 0 → (XLw l nm q G mem 138 [(3, .int a3)] [])) ∧ (¬ a3 = 0 → (∃ Q3 : Int32 → Mem → Prop, CeI l M_L_cell q G [.ref q.2.2.1, .int (2 * a4)] mem Q3 ∧ ∀ (r5 : Int32) (m6 : Mem), Q3 r5 m6 → (∃ Q8 : Int32 → Mem → Prop, CeI l M_L_cell q G [.ref q.2.2.1, .int ((2 * a4) + 1)] m6 Q8 ∧ ∀ (r10 : Int32) (m11 : Mem), Q8 r10 m11 → (∃ Q13 : Int32 → Mem → Prop, CeI l M_L_act q G [.ref (gA G 0), .int r5, .int r10] m11 Q13 ∧ ∀ (r15 : Int32) (m16 : Mem), Q13 r15 m16 → (∃ Q18 : Int32 → Mem → Prop, CeI l M_L_act q G [.ref (gA G 327), .int r5, .int r10] m16 Q18 ∧ ∀ (r20 : Int32) (m21 : Mem), Q18 r20 m21 → ((¬ r15 = r20 → (XLw l nm q G m21 130 [(0, .ref q.2.2.1), (1, .ref (gA G 0)), (2, .ref (gA G 327)), (4, .int a4)] [])) ∧ (r15 = r20 → (∃ Q24 : Int32 → Mem → Prop, CtI l M_L_errors G [.ref (gA G 327)] m21 Q24 ∧ ∀ (r26 : Int32) (m27 : Mem), Q24 r26 m27 → ((r26 = 0 → (XLw l nm q G m27 130 [(0, .ref q.2.2.1), (1, .ref (gA G 0)), (2, .ref (gA G 327)), (4, .int a4)] [])) ∧ (¬ r26 = 0 → (∃ Q30 : Int32 → Mem → Prop, CtI l M_L_alike G [.ref (gA G 0), .ref (gA G 327)] m27 Q30 ∧ ∀ (r32 : Int32) (m33 : Mem), Q30 r32 m33 → ((r32 = 0 → (XLw l nm q G m33 130 [(0, .ref q.2.2.1), (1, .ref (gA G 0)), (2, .ref (gA G 327)), (4, .int a4)] [])) ∧ (¬ r32 = 0 → (XLw l nm q G m33 91 [(0, .ref q.2.2.1), (1, .ref (gA G 0)), (2, .ref (gA G 327)), (4, .int a4), (6, .int r10)] []))))))))))))))))) :
    XLw l nm q G mem 24 [(0, .ref q.2.2.1), (1, .ref (gA G 0)), (2, .ref (gA G 327)), (3, .int a3), (4, .int a4)] [] := by
  refine x_iload (pc := 24) dL_law_24 4 rfl ?_
  refine x_bipush (pc := 26) (v := 7) dL_law_26 (by decide) ?_
  refine x_icmp_ge (pc := 28) (tgt := 138) dL_law_28 (by decide) (fun c1 => ?_) (fun c1 => ?_)
  · have h := h.1 c1
    exact x_sub [3] rfl h
  · have h := h.2 c1
    refine x_iload_n (pc := 31) dL_law_31 3 rfl rfl ?_
    refine x_if_eq (pc := 32) (tgt := 138) dL_law_32 (by decide) (fun c2 => ?_) (fun c2 => ?_)
    · have h := h.1 c2
      exact x_sub [3] rfl h
    · have h := h.2 c2
      refine x_aload_n (pc := 35) dL_law_35 0 rfl rfl ?_
      refine x_iconst (pc := 36) (v := 2) dL_law_36 (by decide) ?_
      refine x_iload (pc := 37) dL_law_37 4 rfl ?_
      refine x_imul (pc := 39) dL_law_39 ?_
      obtain ⟨Q3, hc4, h⟩ := h
      refine x_callSE (pc := 40) hc4 (fun _ _ h => h.2) ok_L_cell dL_law_40 tb_223 (rm_law nm ⟨⟨rfl, rfl⟩, ⟨Nat.le_of_ble_eq_true rfl, Nat.le_of_ble_eq_true rfl⟩, Nat.le_of_ble_eq_true rfl, Nat.le_of_ble_eq_true rfl⟩) rfl rfl (Nat.le_of_ble_eq_true rfl) ?_
      rintro _ m6 ⟨r5, rfl, q7⟩
      have h := h r5 m6 q7
      refine x_istore (pc := 43) dL_law_43 (show 5 < 7 by decide) rfl ?_
      refine x_aload_n (pc := 45) dL_law_45 1 rfl rfl ?_
      refine x_iconst (pc := 46) (v := 2) dL_law_46 (by decide) ?_
      refine x_iload (pc := 47) dL_law_47 5 rfl ?_
      refine x_imul (pc := 49) dL_law_49 ?_
      refine x_iconst (pc := 50) (v := 1) dL_law_50 (by decide) ?_
      refine x_iadd (pc := 51) dL_law_51 ?_
      obtain ⟨Q8, hc9, h⟩ := h
      refine x_callSE (pc := 52) hc9 (fun _ _ h => h.2) ok_L_cell dL_law_52 tb_223 (rm_law nm ⟨⟨rfl, rfl⟩, ⟨Nat.le_of_ble_eq_true rfl, Nat.le_of_ble_eq_true rfl⟩, Nat.le_of_ble_eq_true rfl, Nat.le_of_ble_eq_true rfl⟩) rfl rfl (Nat.le_of_ble_eq_true rfl) ?_
      rintro _ m11 ⟨r10, rfl, q12⟩
      have h := h r10 m11 q12
      refine x_istore (pc := 55) dL_law_55 (show 6 < 7 by decide) rfl ?_
      refine x_aload_n (pc := 57) dL_law_57 3 rfl rfl ?_
      refine x_iload (pc := 58) dL_law_58 1 rfl ?_
      refine x_iload (pc := 60) dL_law_60 0 rfl ?_
      obtain ⟨Q13, hc14, h⟩ := h
      refine x_callSE (pc := 62) hc14 (fun _ _ h => h.2) ok_L_act dL_law_62 tb_632 (rm_law nm ⟨⟨rfl, rfl⟩, ⟨Nat.le_of_ble_eq_true rfl, Nat.le_of_ble_eq_true rfl⟩, Nat.le_of_ble_eq_true rfl, Nat.le_of_ble_eq_true rfl⟩) rfl rfl (Nat.le_of_ble_eq_true rfl) ?_
      rintro _ m16 ⟨r15, rfl, q17⟩
      have h := h r15 m16 q17
      refine x_aload_n (pc := 65) dL_law_65 4 rfl rfl ?_
      refine x_iload (pc := 66) dL_law_66 1 rfl ?_
      refine x_iload (pc := 68) dL_law_68 0 rfl ?_
      obtain ⟨Q18, hc19, h⟩ := h
      refine x_callSE (pc := 70) hc19 (fun _ _ h => h.2) ok_L_act dL_law_70 tb_632 (rm_law nm ⟨⟨rfl, rfl⟩, ⟨Nat.le_of_ble_eq_true rfl, Nat.le_of_ble_eq_true rfl⟩, Nat.le_of_ble_eq_true rfl, Nat.le_of_ble_eq_true rfl⟩) rfl rfl (Nat.le_of_ble_eq_true rfl) ?_
      rintro _ m21 ⟨r20, rfl, q22⟩
      have h := h r20 m21 q22
      refine x_icmp_ne (pc := 73) (tgt := 130) dL_law_73 (by decide) (fun c23 => ?_) (fun c23 => ?_)
      · have h := h.1 c23
        exact x_sub [2, 3, 4, 6] rfl h
      · have h := h.2 c23
        refine x_aload_n (pc := 76) dL_law_76 4 rfl rfl ?_
        obtain ⟨Q24, hc25, h⟩ := h
        refine x_callSI (pc := 77) hc25 ok_L_errors dL_law_77 tb_228 (rm_law nm ⟨⟨rfl, rfl⟩, ⟨Nat.le_of_ble_eq_true rfl, Nat.le_of_ble_eq_true rfl⟩, Nat.le_of_ble_eq_true rfl, Nat.le_of_ble_eq_true rfl⟩) rfl rfl (Nat.le_of_ble_eq_true rfl) (fun r26 m27 q28 => ?_)
        have h := h r26 m27 q28
        refine x_if_eq (pc := 80) (tgt := 130) dL_law_80 (by decide) (fun c29 => ?_) (fun c29 => ?_)
        · have h := h.1 c29
          exact x_sub [2, 3, 4, 6] rfl h
        · have h := h.2 c29
          refine x_aload_n (pc := 83) dL_law_83 3 rfl rfl ?_
          refine x_aload_n (pc := 84) dL_law_84 4 rfl rfl ?_
          obtain ⟨Q30, hc31, h⟩ := h
          refine x_callSI (pc := 85) hc31 ok_L_alike dL_law_85 tb_744 (rm_law nm ⟨⟨rfl, rfl⟩, ⟨Nat.le_of_ble_eq_true rfl, Nat.le_of_ble_eq_true rfl⟩, Nat.le_of_ble_eq_true rfl, Nat.le_of_ble_eq_true rfl⟩) rfl rfl (Nat.le_of_ble_eq_true rfl) (fun r32 m33 q34 => ?_)
          have h := h r32 m33 q34
          refine x_if_eq (pc := 88) (tgt := 130) dL_law_88 (by decide) (fun c35 => ?_) (fun c35 => ?_)
          · have h := h.1 c35
            exact x_sub [2, 3, 4, 6] rfl h
          · have h := h.2 c35
            exact x_sub [2, 3, 4, 6, 0] rfl h
set_option maxRecDepth 100000 in
set_option maxHeartbeats 4000000 in
theorem t_L_law_91 {l : Launch} {nm : String} {q : E5} {G : Gx} (hG : M2 G) (a4 : Int32) (a6 : Int32) (mem : Mem)
    (h : ∃ Q1 : Int32 → Mem → Prop, CtI l M_L_built G [.ref (gA G 0), .int a6] mem Q1 ∧ ∀ (r3 : Int32) (m4 : Mem), Q1 r3 m4 → ((r3 = 0 → (XLw l nm q G m4 130 [(0, .ref q.2.2.1), (1, .ref (gA G 0)), (2, .ref (gA G 327)), (4, .int a4)] [])) ∧ (¬ r3 = 0 → (∃ Q7 : Int32 → Mem → Prop, CtI l M_L_ahead G [.ref (gA G 0), .int a6] m4 Q7 ∧ ∀ (r9 : Int32) (m10 : Mem), Q7 r9 m10 → ((r9 = 0 → (XLw l nm q G m10 130 [(0, .ref q.2.2.1), (1, .ref (gA G 0)), (2, .ref (gA G 327)), (4, .int a4)] [])) ∧ (¬ r9 = 0 → (∃ Q13 : Int32 → Mem → Prop, CtI l M_L_ahead G [.ref (gA G 327), .int a6] m10 Q13 ∧ ∀ (r15 : Int32) (m16 : Mem), Q13 r15 m16 → ((r15 = 0 → (XLw l nm q G m16 130 [(0, .ref q.2.2.1), (1, .ref (gA G 0)), (2, .ref (gA G 327)), (4, .int a4)] [])) ∧ (¬ r15 = 0 → (∃ Q19 : Int32 → Mem → Prop, CtI l M_L_alike G [.ref (gA G 0), .ref (gA G 327)] m16 Q19 ∧ ∀ (r21 : Int32) (m22 : Mem), Q19 r21 m22 → ((r21 = 0 → (XLw l nm q G m22 130 [(0, .ref q.2.2.1), (1, .ref (gA G 0)), (2, .ref (gA G 327)), (4, .int a4)] [])) ∧ (¬ r21 = 0 → (XLw l nm q G m22 132 [(0, .ref q.2.2.1), (1, .ref (gA G 0)), (2, .ref (gA G 327)), (3, .int 1), (4, .int a4)] []))))))))))))) :
    XLw l nm q G mem 91 [(0, .ref q.2.2.1), (1, .ref (gA G 0)), (2, .ref (gA G 327)), (4, .int a4), (6, .int a6)] [] := by
  refine x_aload_n (pc := 91) dL_law_91 1 rfl rfl ?_
  refine x_iload (pc := 92) dL_law_92 4 rfl ?_
  obtain ⟨Q1, hc2, h⟩ := h
  refine x_callSI (pc := 94) hc2 ok_L_built dL_law_94 tb_759 (rm_law nm ⟨⟨rfl, rfl⟩, ⟨Nat.le_of_ble_eq_true rfl, Nat.le_of_ble_eq_true rfl⟩, Nat.le_of_ble_eq_true rfl, Nat.le_of_ble_eq_true rfl⟩) rfl rfl (Nat.le_of_ble_eq_true rfl) (fun r3 m4 q5 => ?_)
  have h := h r3 m4 q5
  refine x_if_eq (pc := 97) (tgt := 130) dL_law_97 (by decide) (fun c6 => ?_) (fun c6 => ?_)
  · have h := h.1 c6
    exact x_sub [0, 1, 2, 3] rfl h
  · have h := h.2 c6
    refine x_aload_n (pc := 100) dL_law_100 1 rfl rfl ?_
    refine x_iload (pc := 101) dL_law_101 4 rfl ?_
    obtain ⟨Q7, hc8, h⟩ := h
    refine x_callSI (pc := 103) hc8 ok_L_ahead dL_law_103 tb_766 (rm_law nm ⟨⟨rfl, rfl⟩, ⟨Nat.le_of_ble_eq_true rfl, Nat.le_of_ble_eq_true rfl⟩, Nat.le_of_ble_eq_true rfl, Nat.le_of_ble_eq_true rfl⟩) rfl rfl (Nat.le_of_ble_eq_true rfl) (fun r9 m10 q11 => ?_)
    have h := h r9 m10 q11
    refine x_if_eq (pc := 106) (tgt := 130) dL_law_106 (by decide) (fun c12 => ?_) (fun c12 => ?_)
    · have h := h.1 c12
      exact x_sub [0, 1, 2, 3] rfl h
    · have h := h.2 c12
      refine x_aload_n (pc := 109) dL_law_109 2 rfl rfl ?_
      refine x_iload (pc := 110) dL_law_110 4 rfl ?_
      obtain ⟨Q13, hc14, h⟩ := h
      refine x_callSI (pc := 112) hc14 ok_L_ahead dL_law_112 tb_766 (rm_law nm ⟨⟨rfl, rfl⟩, ⟨Nat.le_of_ble_eq_true rfl, Nat.le_of_ble_eq_true rfl⟩, Nat.le_of_ble_eq_true rfl, Nat.le_of_ble_eq_true rfl⟩) rfl rfl (Nat.le_of_ble_eq_true rfl) (fun r15 m16 q17 => ?_)
      have h := h r15 m16 q17
      refine x_if_eq (pc := 115) (tgt := 130) dL_law_115 (by decide) (fun c18 => ?_) (fun c18 => ?_)
      · have h := h.1 c18
        exact x_sub [0, 1, 2, 3] rfl h
      · have h := h.2 c18
        refine x_aload_n (pc := 118) dL_law_118 1 rfl rfl ?_
        refine x_aload_n (pc := 119) dL_law_119 2 rfl rfl ?_
        obtain ⟨Q19, hc20, h⟩ := h
        refine x_callSI (pc := 120) hc20 ok_L_alike dL_law_120 tb_744 (rm_law nm ⟨⟨rfl, rfl⟩, ⟨Nat.le_of_ble_eq_true rfl, Nat.le_of_ble_eq_true rfl⟩, Nat.le_of_ble_eq_true rfl, Nat.le_of_ble_eq_true rfl⟩) rfl rfl (Nat.le_of_ble_eq_true rfl) (fun r21 m22 q23 => ?_)
        have h := h r21 m22 q23
        refine x_if_eq (pc := 123) (tgt := 130) dL_law_123 (by decide) (fun c24 => ?_) (fun c24 => ?_)
        · have h := h.1 c24
          exact x_sub [0, 1, 2, 3] rfl h
        · have h := h.2 c24
          refine x_iconst (pc := 126) (v := 1) dL_law_126 (by decide) ?_
          refine x_goto (pc := 127) (tgt := 131) dL_law_127 (by decide) ?_
          refine x_istore_n (pc := 131) dL_law_131 rfl (show 3 < 7 by decide) rfl ?_
          exact x_sub [1, 2, 3, 0, 4] rfl h
set_option maxRecDepth 100000 in
set_option maxHeartbeats 4000000 in
theorem t_L_law_130 {l : Launch} {nm : String} {q : E5} {G : Gx} (hG : M2 G) (a4 : Int32) (mem : Mem)
    (h : XLw l nm q G mem 132 [(0, .ref q.2.2.1), (1, .ref (gA G 0)), (2, .ref (gA G 327)), (3, .int 0), (4, .int a4)] []) :
    XLw l nm q G mem 130 [(0, .ref q.2.2.1), (1, .ref (gA G 0)), (2, .ref (gA G 327)), (4, .int a4)] [] := by
  refine x_iconst (pc := 130) (v := 0) dL_law_130 (by decide) ?_
  refine x_istore_n (pc := 131) dL_law_131 rfl (show 3 < 7 by decide) rfl ?_
  exact x_sub [1, 2, 3, 0, 4] rfl h
set_option maxRecDepth 100000 in
set_option maxHeartbeats 4000000 in
theorem t_L_law_132 {l : Launch} {nm : String} {q : E5} {G : Gx} (hG : M2 G) (a3 : Int32) (a4 : Int32) (mem : Mem)
    (h : XLw l nm q G mem 24 [(0, .ref q.2.2.1), (1, .ref (gA G 0)), (2, .ref (gA G 327)), (3, .int a3), (4, .int (a4 + 1))] []) :
    XLw l nm q G mem 132 [(0, .ref q.2.2.1), (1, .ref (gA G 0)), (2, .ref (gA G 327)), (3, .int a3), (4, .int a4)] [] := by
  refine x_iinc (pc := 132) (v := (a4 + 1)) dL_law_132 (k := 4) rfl rfl (show 4 < 7 by decide) rfl ?_
  refine x_goto (pc := 135) (tgt := 24) dL_law_135 (by decide) ?_
  exact x_sub [1, 2, 3, 4, 0] rfl h
set_option maxRecDepth 100000 in
set_option maxHeartbeats 4000000 in
theorem t_L_law_138 {l : Launch} {nm : String} {q : E5} {G : Gx} (hG : M2 G) (a3 : Int32) (mem : Mem)
    (h : a3 = 1) :
    XLw l nm q G mem 138 [(3, .int a3)] [] := by
  refine x_iload_n (pc := 138) dL_law_138 0 rfl rfl ?_
  refine x_eq (st2 := [.int 1]) rfl rfl (by rw [h]) ?_
  exact x_lend (pc := 139) dL_law_139
