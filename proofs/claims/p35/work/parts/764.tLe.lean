theorem out15 {x : Int} (h : ∀ k : Nat, k < 15 → ¬ x = (k : Int)) : x < 0 ∨ 14 < x := by
  by_cases a : x < 0
  · exact Or.inl a
  · by_cases b : 14 < x
    · exact Or.inr b
    · exact absurd (show x = (x.toNat : Int) by omega) (h x.toNat (by omega))
set_option maxRecDepth 100000 in
set_option maxHeartbeats 4000000 in
theorem t_L_act_0 {l : Launch} {q : E5} {G : Gx} {P : Int32 → Mem → Prop} (hG : Mn G) (a1 : Int32) (a2 : Int32) (mem : Mem)
    (h : ((a1 &&& 15).toInt = 0 → (∃ Q2 : Int32 → Mem → Prop, CeI l M_L_load q G [.ref (gA G 0), .int (a1 >>> (4 &&& 31)), .int a2] mem Q2 ∧ ∀ (r4 : Int32) (m5 : Mem), Q2 r4 m5 → (P r4 m5))) ∧ ((a1 &&& 15).toInt = 1 → (∃ Q7 : Int32 → Mem → Prop, CeI l M_L_load q G [.ref (gA G 0), .int (a1 >>> (4 &&& 31)), .int a2] mem Q7 ∧ ∀ (r9 : Int32) (m10 : Mem), Q7 r9 m10 → (P r9 m10))) ∧ ((a1 &&& 15).toInt = 2 → (∃ Q12 : Int32 → Mem → Prop, CeI l M_L_load q G [.ref (gA G 0), .int (a1 >>> (4 &&& 31)), .int a2] mem Q12 ∧ ∀ (r14 : Int32) (m15 : Mem), Q12 r14 m15 → (P r14 m15))) ∧ ((a1 &&& 15).toInt = 3 → (∃ Q17 : Int32 → Mem → Prop, CeI l M_L_load q G [.ref (gA G 0), .int (a1 >>> (4 &&& 31)), .int a2] mem Q17 ∧ ∀ (r19 : Int32) (m20 : Mem), Q17 r19 m20 → (P r19 m20))) ∧ ((a1 &&& 15).toInt = 4 → (∃ Q22 : Int32 → Mem → Prop, CtI l M_X6_link G [.ref (gA G 0), .int (a2 - a2 / 12 * 12), .int ((a2 / 12) - (a2 / 12) / 12 * 12), .int (1 + ((a2 / 144) - (a2 / 144) / 99 * 99))] mem Q22 ∧ ∀ (r24 : Int32) (m25 : Mem), Q22 r24 m25 → (P r24 m25))) ∧ ((a1 &&& 15).toInt = 5 → (∃ Q27 : Int32 → Mem → Prop, CtI l M_X6_link G [.ref (gA G 0), .int (a2 - a2 / 12 * 12), .int ((a2 / 12) - (a2 / 12) / 12 * 12), .int (1 + ((a2 / 144) - (a2 / 144) / 99 * 99))] mem Q27 ∧ ∀ (r29 : Int32) (m30 : Mem), Q27 r29 m30 → (P r29 m30))) ∧ ((a1 &&& 15).toInt = 6 → (∃ Q32 : Int32 → Mem → Prop, CtI l M_X6_link G [.ref (gA G 0), .int (a2 - a2 / 12 * 12), .int ((a2 / 12) - (a2 / 12) / 12 * 12), .int (1 + ((a2 / 144) - (a2 / 144) / 99 * 99))] mem Q32 ∧ ∀ (r34 : Int32) (m35 : Mem), Q32 r34 m35 → (P r34 m35))) ∧ ((a1 &&& 15).toInt = 7 → (∃ Q37 : Int32 → Mem → Prop, CtI l M_X6_link G [.ref (gA G 0), .int (a2 - a2 / 12 * 12), .int ((a2 / 12) - (a2 / 12) / 12 * 12), .int (1 + ((a2 / 144) - (a2 / 144) / 99 * 99))] mem Q37 ∧ ∀ (r39 : Int32) (m40 : Mem), Q37 r39 m40 → (P r39 m40))) ∧ ((a1 &&& 15).toInt = 8 → (∃ Q42 : Int32 → Mem → Prop, CtI l M_X6_cut G [.ref (gA G 0), .int (a2 - a2 / 12 * 12), .int ((a2 / 12) - (a2 / 12) / 12 * 12)] mem Q42 ∧ ∀ (r44 : Int32) (m45 : Mem), Q42 r44 m45 → (P r44 m45))) ∧ ((a1 &&& 15).toInt = 9 → (∃ Q47 : Int32 → Mem → Prop, CtI l M_X6_cut G [.ref (gA G 0), .int (a2 - a2 / 12 * 12), .int ((a2 / 12) - (a2 / 12) / 12 * 12)] mem Q47 ∧ ∀ (r49 : Int32) (m50 : Mem), Q47 r49 m50 → (P r49 m50))) ∧ ((a1 &&& 15).toInt = 10 → (∃ Q52 : Int32 → Mem → Prop, CtI l M_X6_setEdgeWeight G [.ref (gA G 0), .int (a2 - a2 / 12 * 12), .int ((a2 / 12) - (a2 / 12) / 12 * 12), .int (1 + ((a2 / 144) - (a2 / 144) / 99 * 99))] mem Q52 ∧ ∀ (r54 : Int32) (m55 : Mem), Q52 r54 m55 → (P r54 m55))) ∧ ((a1 &&& 15).toInt = 11 → (∃ Q57 : Int32 → Mem → Prop, CtI l M_X6_setVertexWeight G [.ref (gA G 0), .int (a2 - a2 / 12 * 12), .int ((a2 / 12) - (a2 / 12) / 100 * 100)] mem Q57 ∧ ∀ (r59 : Int32) (m60 : Mem), Q57 r59 m60 → (P r59 m60))) ∧ ((a1 &&& 15).toInt = 12 → (∃ Q62 : Int32 → Mem → Prop, CtI l M_X6_undo G [.ref (gA G 0)] mem Q62 ∧ ∀ (r64 : Int32) (m65 : Mem), Q62 r64 m65 → (P r64 m65))) ∧ ((a1 &&& 15).toInt = 13 → (∃ Q67 : Int32 → Mem → Prop, CtI l M_X6_observe G [.ref (gA G 0), .int (a2 - a2 / 12 * 12), .int ((a2 / 12) - (a2 / 12) / 12 * 12), .int ((a2 / 144) - (a2 / 144) / 300 * 300)] mem Q67 ∧ ∀ (r69 : Int32) (m70 : Mem), Q67 r69 m70 → (P r69 m70))) ∧ ((a1 &&& 15).toInt = 14 → (∃ Q72 : Int32 → Mem → Prop, CtI l M_X6_save G [.ref (gA G 0), .int (a2 &&& 1)] mem Q72 ∧ ∀ (r74 : Int32) (m75 : Mem), Q72 r74 m75 → (P r74 m75))) ∧ (¬ (a1 &&& 15).toInt = 0 → ¬ (a1 &&& 15).toInt = 1 → ¬ (a1 &&& 15).toInt = 2 → ¬ (a1 &&& 15).toInt = 3 → ¬ (a1 &&& 15).toInt = 4 → ¬ (a1 &&& 15).toInt = 5 → ¬ (a1 &&& 15).toInt = 6 → ¬ (a1 &&& 15).toInt = 7 → ¬ (a1 &&& 15).toInt = 8 → ¬ (a1 &&& 15).toInt = 9 → ¬ (a1 &&& 15).toInt = 10 → ¬ (a1 &&& 15).toInt = 11 → ¬ (a1 &&& 15).toInt = 12 → ¬ (a1 &&& 15).toInt = 13 → ¬ (a1 &&& 15).toInt = 14 → (∃ Q77 : Int32 → Mem → Prop, CtI l M_X6_restore G [.ref (gA G 0), .int (a2 &&& 1)] mem Q77 ∧ ∀ (r79 : Int32) (m80 : Mem), Q77 r79 m80 → (P r79 m80)))) :
    XJ l M_L_act q G P mem 0 [(0, .ref (gA G 0)), (1, .int a1), (2, .int a2)] [] := by
  refine x_iload_n (pc := 0) dL_act_0 1 rfl rfl ?_
  refine x_bipush (pc := 1) (v := 15) dL_act_1 (by decide) ?_
  refine x_iand (pc := 3) dL_act_3 ?_
  by_cases c1_0 : (a1 &&& 15).toInt = 0
  · have h := h.1 c1_0
    refine x_tableIn (pc := 4) (tgt := 80) (off := 76) dL_act_4 (by rw [c1_0]; decide) (by rw [c1_0]; decide) (by rw [c1_0]; rfl) (by decide) ?_
    refine x_aload_n (pc := 80) dL_act_80 0 rfl rfl ?_
    refine x_iload_n (pc := 81) dL_act_81 1 rfl rfl ?_
    refine x_iconst (pc := 82) (v := 4) dL_act_82 (by decide) ?_
    refine x_ishr (pc := 83) dL_act_83 ?_
    refine x_iload_n (pc := 84) dL_act_84 2 rfl rfl ?_
    obtain ⟨Q2, hc3, h⟩ := h
    refine x_callSE (pc := 85) hc3 (fun _ _ h => h) ok_L_load dL_act_85 tb_635 ⟨⟨rfl, rfl⟩, ⟨by decide, by decide⟩, by decide, by decide⟩ rfl rfl (Nat.le_of_ble_eq_true rfl) ?_
    rintro _ m5 ⟨r4, rfl, q6⟩
    have h := h r4 m5 q6
    exact e_endJ (pc := 88) dL_act_88 rfl h
  have h := h.2
  by_cases c1_1 : (a1 &&& 15).toInt = 1
  · have h := h.1 c1_1
    refine x_tableIn (pc := 4) (tgt := 80) (off := 76) dL_act_4 (by rw [c1_1]; decide) (by rw [c1_1]; decide) (by rw [c1_1]; rfl) (by decide) ?_
    refine x_aload_n (pc := 80) dL_act_80 0 rfl rfl ?_
    refine x_iload_n (pc := 81) dL_act_81 1 rfl rfl ?_
    refine x_iconst (pc := 82) (v := 4) dL_act_82 (by decide) ?_
    refine x_ishr (pc := 83) dL_act_83 ?_
    refine x_iload_n (pc := 84) dL_act_84 2 rfl rfl ?_
    obtain ⟨Q7, hc8, h⟩ := h
    refine x_callSE (pc := 85) hc8 (fun _ _ h => h) ok_L_load dL_act_85 tb_635 ⟨⟨rfl, rfl⟩, ⟨by decide, by decide⟩, by decide, by decide⟩ rfl rfl (Nat.le_of_ble_eq_true rfl) ?_
    rintro _ m10 ⟨r9, rfl, q11⟩
    have h := h r9 m10 q11
    exact e_endJ (pc := 88) dL_act_88 rfl h
  have h := h.2
  by_cases c1_2 : (a1 &&& 15).toInt = 2
  · have h := h.1 c1_2
    refine x_tableIn (pc := 4) (tgt := 80) (off := 76) dL_act_4 (by rw [c1_2]; decide) (by rw [c1_2]; decide) (by rw [c1_2]; rfl) (by decide) ?_
    refine x_aload_n (pc := 80) dL_act_80 0 rfl rfl ?_
    refine x_iload_n (pc := 81) dL_act_81 1 rfl rfl ?_
    refine x_iconst (pc := 82) (v := 4) dL_act_82 (by decide) ?_
    refine x_ishr (pc := 83) dL_act_83 ?_
    refine x_iload_n (pc := 84) dL_act_84 2 rfl rfl ?_
    obtain ⟨Q12, hc13, h⟩ := h
    refine x_callSE (pc := 85) hc13 (fun _ _ h => h) ok_L_load dL_act_85 tb_635 ⟨⟨rfl, rfl⟩, ⟨by decide, by decide⟩, by decide, by decide⟩ rfl rfl (Nat.le_of_ble_eq_true rfl) ?_
    rintro _ m15 ⟨r14, rfl, q16⟩
    have h := h r14 m15 q16
    exact e_endJ (pc := 88) dL_act_88 rfl h
  have h := h.2
  by_cases c1_3 : (a1 &&& 15).toInt = 3
  · have h := h.1 c1_3
    refine x_tableIn (pc := 4) (tgt := 80) (off := 76) dL_act_4 (by rw [c1_3]; decide) (by rw [c1_3]; decide) (by rw [c1_3]; rfl) (by decide) ?_
    refine x_aload_n (pc := 80) dL_act_80 0 rfl rfl ?_
    refine x_iload_n (pc := 81) dL_act_81 1 rfl rfl ?_
    refine x_iconst (pc := 82) (v := 4) dL_act_82 (by decide) ?_
    refine x_ishr (pc := 83) dL_act_83 ?_
    refine x_iload_n (pc := 84) dL_act_84 2 rfl rfl ?_
    obtain ⟨Q17, hc18, h⟩ := h
    refine x_callSE (pc := 85) hc18 (fun _ _ h => h) ok_L_load dL_act_85 tb_635 ⟨⟨rfl, rfl⟩, ⟨by decide, by decide⟩, by decide, by decide⟩ rfl rfl (Nat.le_of_ble_eq_true rfl) ?_
    rintro _ m20 ⟨r19, rfl, q21⟩
    have h := h r19 m20 q21
    exact e_endJ (pc := 88) dL_act_88 rfl h
  have h := h.2
  by_cases c1_4 : (a1 &&& 15).toInt = 4
  · have h := h.1 c1_4
    refine x_tableIn (pc := 4) (tgt := 89) (off := 85) dL_act_4 (by rw [c1_4]; decide) (by rw [c1_4]; decide) (by rw [c1_4]; rfl) (by decide) ?_
    refine x_aload_n (pc := 89) dL_act_89 0 rfl rfl ?_
    refine x_iload_n (pc := 90) dL_act_90 2 rfl rfl ?_
    refine x_bipush (pc := 91) (v := 12) dL_act_91 (by decide) ?_
    refine x_irem (pc := 93) dL_act_93 (by decide) ?_
    refine x_iload_n (pc := 94) dL_act_94 2 rfl rfl ?_
    refine x_bipush (pc := 95) (v := 12) dL_act_95 (by decide) ?_
    refine x_idiv (pc := 97) dL_act_97 (by decide) ?_
    refine x_bipush (pc := 98) (v := 12) dL_act_98 (by decide) ?_
    refine x_irem (pc := 100) dL_act_100 (by decide) ?_
    refine x_iconst (pc := 101) (v := 1) dL_act_101 (by decide) ?_
    refine x_iload_n (pc := 102) dL_act_102 2 rfl rfl ?_
    refine x_sipush (pc := 103) (v := 144) dL_act_103 (by decide) ?_
    refine x_idiv (pc := 106) dL_act_106 (by decide) ?_
    refine x_bipush (pc := 107) (v := 99) dL_act_107 (by decide) ?_
    refine x_irem (pc := 109) dL_act_109 (by decide) ?_
    refine x_iadd (pc := 110) dL_act_110 ?_
    obtain ⟨Q22, hc23, h⟩ := h
    refine x_callVI (pc := 111) 0 hc23 ok_X6_link dL_act_111 tb_308 ⟨⟨rfl, rfl⟩, ⟨by decide, by decide⟩, by decide, by decide⟩ (mK hG (by decide)) (mc_0 hG _) rfl (As := [.int (a2 - a2 / 12 * 12), .int ((a2 / 12) - (a2 / 12) / 12 * 12), .int (1 + ((a2 / 144) - (a2 / 144) / 99 * 99))]) rfl rfl (Nat.le_of_ble_eq_true rfl) (fun r24 m25 q26 => ?_)
    have h := h r24 m25 q26
    exact e_endJ (pc := 114) dL_act_114 rfl h
  have h := h.2
  by_cases c1_5 : (a1 &&& 15).toInt = 5
  · have h := h.1 c1_5
    refine x_tableIn (pc := 4) (tgt := 89) (off := 85) dL_act_4 (by rw [c1_5]; decide) (by rw [c1_5]; decide) (by rw [c1_5]; rfl) (by decide) ?_
    refine x_aload_n (pc := 89) dL_act_89 0 rfl rfl ?_
    refine x_iload_n (pc := 90) dL_act_90 2 rfl rfl ?_
    refine x_bipush (pc := 91) (v := 12) dL_act_91 (by decide) ?_
    refine x_irem (pc := 93) dL_act_93 (by decide) ?_
    refine x_iload_n (pc := 94) dL_act_94 2 rfl rfl ?_
    refine x_bipush (pc := 95) (v := 12) dL_act_95 (by decide) ?_
    refine x_idiv (pc := 97) dL_act_97 (by decide) ?_
    refine x_bipush (pc := 98) (v := 12) dL_act_98 (by decide) ?_
    refine x_irem (pc := 100) dL_act_100 (by decide) ?_
    refine x_iconst (pc := 101) (v := 1) dL_act_101 (by decide) ?_
    refine x_iload_n (pc := 102) dL_act_102 2 rfl rfl ?_
    refine x_sipush (pc := 103) (v := 144) dL_act_103 (by decide) ?_
    refine x_idiv (pc := 106) dL_act_106 (by decide) ?_
    refine x_bipush (pc := 107) (v := 99) dL_act_107 (by decide) ?_
    refine x_irem (pc := 109) dL_act_109 (by decide) ?_
    refine x_iadd (pc := 110) dL_act_110 ?_
    obtain ⟨Q27, hc28, h⟩ := h
    refine x_callVI (pc := 111) 0 hc28 ok_X6_link dL_act_111 tb_308 ⟨⟨rfl, rfl⟩, ⟨by decide, by decide⟩, by decide, by decide⟩ (mK hG (by decide)) (mc_0 hG _) rfl (As := [.int (a2 - a2 / 12 * 12), .int ((a2 / 12) - (a2 / 12) / 12 * 12), .int (1 + ((a2 / 144) - (a2 / 144) / 99 * 99))]) rfl rfl (Nat.le_of_ble_eq_true rfl) (fun r29 m30 q31 => ?_)
    have h := h r29 m30 q31
    exact e_endJ (pc := 114) dL_act_114 rfl h
  have h := h.2
  by_cases c1_6 : (a1 &&& 15).toInt = 6
  · have h := h.1 c1_6
    refine x_tableIn (pc := 4) (tgt := 89) (off := 85) dL_act_4 (by rw [c1_6]; decide) (by rw [c1_6]; decide) (by rw [c1_6]; rfl) (by decide) ?_
    refine x_aload_n (pc := 89) dL_act_89 0 rfl rfl ?_
    refine x_iload_n (pc := 90) dL_act_90 2 rfl rfl ?_
    refine x_bipush (pc := 91) (v := 12) dL_act_91 (by decide) ?_
    refine x_irem (pc := 93) dL_act_93 (by decide) ?_
    refine x_iload_n (pc := 94) dL_act_94 2 rfl rfl ?_
    refine x_bipush (pc := 95) (v := 12) dL_act_95 (by decide) ?_
    refine x_idiv (pc := 97) dL_act_97 (by decide) ?_
    refine x_bipush (pc := 98) (v := 12) dL_act_98 (by decide) ?_
    refine x_irem (pc := 100) dL_act_100 (by decide) ?_
    refine x_iconst (pc := 101) (v := 1) dL_act_101 (by decide) ?_
    refine x_iload_n (pc := 102) dL_act_102 2 rfl rfl ?_
    refine x_sipush (pc := 103) (v := 144) dL_act_103 (by decide) ?_
    refine x_idiv (pc := 106) dL_act_106 (by decide) ?_
    refine x_bipush (pc := 107) (v := 99) dL_act_107 (by decide) ?_
    refine x_irem (pc := 109) dL_act_109 (by decide) ?_
    refine x_iadd (pc := 110) dL_act_110 ?_
    obtain ⟨Q32, hc33, h⟩ := h
    refine x_callVI (pc := 111) 0 hc33 ok_X6_link dL_act_111 tb_308 ⟨⟨rfl, rfl⟩, ⟨by decide, by decide⟩, by decide, by decide⟩ (mK hG (by decide)) (mc_0 hG _) rfl (As := [.int (a2 - a2 / 12 * 12), .int ((a2 / 12) - (a2 / 12) / 12 * 12), .int (1 + ((a2 / 144) - (a2 / 144) / 99 * 99))]) rfl rfl (Nat.le_of_ble_eq_true rfl) (fun r34 m35 q36 => ?_)
    have h := h r34 m35 q36
    exact e_endJ (pc := 114) dL_act_114 rfl h
  have h := h.2
  by_cases c1_7 : (a1 &&& 15).toInt = 7
  · have h := h.1 c1_7
    refine x_tableIn (pc := 4) (tgt := 89) (off := 85) dL_act_4 (by rw [c1_7]; decide) (by rw [c1_7]; decide) (by rw [c1_7]; rfl) (by decide) ?_
    refine x_aload_n (pc := 89) dL_act_89 0 rfl rfl ?_
    refine x_iload_n (pc := 90) dL_act_90 2 rfl rfl ?_
    refine x_bipush (pc := 91) (v := 12) dL_act_91 (by decide) ?_
    refine x_irem (pc := 93) dL_act_93 (by decide) ?_
    refine x_iload_n (pc := 94) dL_act_94 2 rfl rfl ?_
    refine x_bipush (pc := 95) (v := 12) dL_act_95 (by decide) ?_
    refine x_idiv (pc := 97) dL_act_97 (by decide) ?_
    refine x_bipush (pc := 98) (v := 12) dL_act_98 (by decide) ?_
    refine x_irem (pc := 100) dL_act_100 (by decide) ?_
    refine x_iconst (pc := 101) (v := 1) dL_act_101 (by decide) ?_
    refine x_iload_n (pc := 102) dL_act_102 2 rfl rfl ?_
    refine x_sipush (pc := 103) (v := 144) dL_act_103 (by decide) ?_
    refine x_idiv (pc := 106) dL_act_106 (by decide) ?_
    refine x_bipush (pc := 107) (v := 99) dL_act_107 (by decide) ?_
    refine x_irem (pc := 109) dL_act_109 (by decide) ?_
    refine x_iadd (pc := 110) dL_act_110 ?_
    obtain ⟨Q37, hc38, h⟩ := h
    refine x_callVI (pc := 111) 0 hc38 ok_X6_link dL_act_111 tb_308 ⟨⟨rfl, rfl⟩, ⟨by decide, by decide⟩, by decide, by decide⟩ (mK hG (by decide)) (mc_0 hG _) rfl (As := [.int (a2 - a2 / 12 * 12), .int ((a2 / 12) - (a2 / 12) / 12 * 12), .int (1 + ((a2 / 144) - (a2 / 144) / 99 * 99))]) rfl rfl (Nat.le_of_ble_eq_true rfl) (fun r39 m40 q41 => ?_)
    have h := h r39 m40 q41
    exact e_endJ (pc := 114) dL_act_114 rfl h
  have h := h.2
  by_cases c1_8 : (a1 &&& 15).toInt = 8
  · have h := h.1 c1_8
    refine x_tableIn (pc := 4) (tgt := 115) (off := 111) dL_act_4 (by rw [c1_8]; decide) (by rw [c1_8]; decide) (by rw [c1_8]; rfl) (by decide) ?_
    refine x_aload_n (pc := 115) dL_act_115 0 rfl rfl ?_
    refine x_iload_n (pc := 116) dL_act_116 2 rfl rfl ?_
    refine x_bipush (pc := 117) (v := 12) dL_act_117 (by decide) ?_
    refine x_irem (pc := 119) dL_act_119 (by decide) ?_
    refine x_iload_n (pc := 120) dL_act_120 2 rfl rfl ?_
    refine x_bipush (pc := 121) (v := 12) dL_act_121 (by decide) ?_
    refine x_idiv (pc := 123) dL_act_123 (by decide) ?_
    refine x_bipush (pc := 124) (v := 12) dL_act_124 (by decide) ?_
    refine x_irem (pc := 126) dL_act_126 (by decide) ?_
    obtain ⟨Q42, hc43, h⟩ := h
    refine x_callVI (pc := 127) 0 hc43 ok_X6_cut dL_act_127 tb_337 ⟨⟨rfl, rfl⟩, ⟨by decide, by decide⟩, by decide, by decide⟩ (mK hG (by decide)) (mc_0 hG _) rfl (As := [.int (a2 - a2 / 12 * 12), .int ((a2 / 12) - (a2 / 12) / 12 * 12)]) rfl rfl (Nat.le_of_ble_eq_true rfl) (fun r44 m45 q46 => ?_)
    have h := h r44 m45 q46
    exact e_endJ (pc := 130) dL_act_130 rfl h
  have h := h.2
  by_cases c1_9 : (a1 &&& 15).toInt = 9
  · have h := h.1 c1_9
    refine x_tableIn (pc := 4) (tgt := 115) (off := 111) dL_act_4 (by rw [c1_9]; decide) (by rw [c1_9]; decide) (by rw [c1_9]; rfl) (by decide) ?_
    refine x_aload_n (pc := 115) dL_act_115 0 rfl rfl ?_
    refine x_iload_n (pc := 116) dL_act_116 2 rfl rfl ?_
    refine x_bipush (pc := 117) (v := 12) dL_act_117 (by decide) ?_
    refine x_irem (pc := 119) dL_act_119 (by decide) ?_
    refine x_iload_n (pc := 120) dL_act_120 2 rfl rfl ?_
    refine x_bipush (pc := 121) (v := 12) dL_act_121 (by decide) ?_
    refine x_idiv (pc := 123) dL_act_123 (by decide) ?_
    refine x_bipush (pc := 124) (v := 12) dL_act_124 (by decide) ?_
    refine x_irem (pc := 126) dL_act_126 (by decide) ?_
    obtain ⟨Q47, hc48, h⟩ := h
    refine x_callVI (pc := 127) 0 hc48 ok_X6_cut dL_act_127 tb_337 ⟨⟨rfl, rfl⟩, ⟨by decide, by decide⟩, by decide, by decide⟩ (mK hG (by decide)) (mc_0 hG _) rfl (As := [.int (a2 - a2 / 12 * 12), .int ((a2 / 12) - (a2 / 12) / 12 * 12)]) rfl rfl (Nat.le_of_ble_eq_true rfl) (fun r49 m50 q51 => ?_)
    have h := h r49 m50 q51
    exact e_endJ (pc := 130) dL_act_130 rfl h
  have h := h.2
  by_cases c1_10 : (a1 &&& 15).toInt = 10
  · have h := h.1 c1_10
    refine x_tableIn (pc := 4) (tgt := 131) (off := 127) dL_act_4 (by rw [c1_10]; decide) (by rw [c1_10]; decide) (by rw [c1_10]; rfl) (by decide) ?_
    refine x_aload_n (pc := 131) dL_act_131 0 rfl rfl ?_
    refine x_iload_n (pc := 132) dL_act_132 2 rfl rfl ?_
    refine x_bipush (pc := 133) (v := 12) dL_act_133 (by decide) ?_
    refine x_irem (pc := 135) dL_act_135 (by decide) ?_
    refine x_iload_n (pc := 136) dL_act_136 2 rfl rfl ?_
    refine x_bipush (pc := 137) (v := 12) dL_act_137 (by decide) ?_
    refine x_idiv (pc := 139) dL_act_139 (by decide) ?_
    refine x_bipush (pc := 140) (v := 12) dL_act_140 (by decide) ?_
    refine x_irem (pc := 142) dL_act_142 (by decide) ?_
    refine x_iconst (pc := 143) (v := 1) dL_act_143 (by decide) ?_
    refine x_iload_n (pc := 144) dL_act_144 2 rfl rfl ?_
    refine x_sipush (pc := 145) (v := 144) dL_act_145 (by decide) ?_
    refine x_idiv (pc := 148) dL_act_148 (by decide) ?_
    refine x_bipush (pc := 149) (v := 99) dL_act_149 (by decide) ?_
    refine x_irem (pc := 151) dL_act_151 (by decide) ?_
    refine x_iadd (pc := 152) dL_act_152 ?_
    obtain ⟨Q52, hc53, h⟩ := h
    refine x_callVI (pc := 153) 0 hc53 ok_X6_setEdgeWeight dL_act_153 tb_344 ⟨⟨rfl, rfl⟩, ⟨by decide, by decide⟩, by decide, by decide⟩ (mK hG (by decide)) (mc_0 hG _) rfl (As := [.int (a2 - a2 / 12 * 12), .int ((a2 / 12) - (a2 / 12) / 12 * 12), .int (1 + ((a2 / 144) - (a2 / 144) / 99 * 99))]) rfl rfl (Nat.le_of_ble_eq_true rfl) (fun r54 m55 q56 => ?_)
    have h := h r54 m55 q56
    exact e_endJ (pc := 156) dL_act_156 rfl h
  have h := h.2
  by_cases c1_11 : (a1 &&& 15).toInt = 11
  · have h := h.1 c1_11
    refine x_tableIn (pc := 4) (tgt := 157) (off := 153) dL_act_4 (by rw [c1_11]; decide) (by rw [c1_11]; decide) (by rw [c1_11]; rfl) (by decide) ?_
    refine x_aload_n (pc := 157) dL_act_157 0 rfl rfl ?_
    refine x_iload_n (pc := 158) dL_act_158 2 rfl rfl ?_
    refine x_bipush (pc := 159) (v := 12) dL_act_159 (by decide) ?_
    refine x_irem (pc := 161) dL_act_161 (by decide) ?_
    refine x_iload_n (pc := 162) dL_act_162 2 rfl rfl ?_
    refine x_bipush (pc := 163) (v := 12) dL_act_163 (by decide) ?_
    refine x_idiv (pc := 165) dL_act_165 (by decide) ?_
    refine x_bipush (pc := 166) (v := 100) dL_act_166 (by decide) ?_
    refine x_irem (pc := 168) dL_act_168 (by decide) ?_
    obtain ⟨Q57, hc58, h⟩ := h
    refine x_callVI (pc := 169) 0 hc58 ok_X6_setVertexWeight dL_act_169 tb_348 ⟨⟨rfl, rfl⟩, ⟨by decide, by decide⟩, by decide, by decide⟩ (mK hG (by decide)) (mc_0 hG _) rfl (As := [.int (a2 - a2 / 12 * 12), .int ((a2 / 12) - (a2 / 12) / 100 * 100)]) rfl rfl (Nat.le_of_ble_eq_true rfl) (fun r59 m60 q61 => ?_)
    have h := h r59 m60 q61
    exact e_endJ (pc := 172) dL_act_172 rfl h
  have h := h.2
  by_cases c1_12 : (a1 &&& 15).toInt = 12
  · have h := h.1 c1_12
    refine x_tableIn (pc := 4) (tgt := 173) (off := 169) dL_act_4 (by rw [c1_12]; decide) (by rw [c1_12]; decide) (by rw [c1_12]; rfl) (by decide) ?_
    refine x_aload_n (pc := 173) dL_act_173 0 rfl rfl ?_
    obtain ⟨Q62, hc63, h⟩ := h
    refine x_callVI (pc := 174) 0 hc63 ok_X6_undo dL_act_174 tb_731 ⟨⟨rfl, rfl⟩, ⟨by decide, by decide⟩, by decide, by decide⟩ (mK hG (by decide)) (mc_0 hG _) rfl (As := []) rfl rfl (Nat.le_of_ble_eq_true rfl) (fun r64 m65 q66 => ?_)
    have h := h r64 m65 q66
    exact e_endJ (pc := 177) dL_act_177 rfl h
  have h := h.2
  by_cases c1_13 : (a1 &&& 15).toInt = 13
  · have h := h.1 c1_13
    refine x_tableIn (pc := 4) (tgt := 178) (off := 174) dL_act_4 (by rw [c1_13]; decide) (by rw [c1_13]; decide) (by rw [c1_13]; rfl) (by decide) ?_
    refine x_aload_n (pc := 178) dL_act_178 0 rfl rfl ?_
    refine x_iload_n (pc := 179) dL_act_179 2 rfl rfl ?_
    refine x_bipush (pc := 180) (v := 12) dL_act_180 (by decide) ?_
    refine x_irem (pc := 182) dL_act_182 (by decide) ?_
    refine x_iload_n (pc := 183) dL_act_183 2 rfl rfl ?_
    refine x_bipush (pc := 184) (v := 12) dL_act_184 (by decide) ?_
    refine x_idiv (pc := 186) dL_act_186 (by decide) ?_
    refine x_bipush (pc := 187) (v := 12) dL_act_187 (by decide) ?_
    refine x_irem (pc := 189) dL_act_189 (by decide) ?_
    refine x_iload_n (pc := 190) dL_act_190 2 rfl rfl ?_
    refine x_sipush (pc := 191) (v := 144) dL_act_191 (by decide) ?_
    refine x_idiv (pc := 194) dL_act_194 (by decide) ?_
    refine x_sipush (pc := 195) (v := 300) dL_act_195 (by decide) ?_
    refine x_irem (pc := 198) dL_act_198 (by decide) ?_
    obtain ⟨Q67, hc68, h⟩ := h
    refine x_callVI (pc := 199) 0 hc68 ok_X6_observe dL_act_199 tb_554 ⟨⟨rfl, rfl⟩, ⟨by decide, by decide⟩, by decide, by decide⟩ (mK hG (by decide)) (mc_0 hG _) rfl (As := [.int (a2 - a2 / 12 * 12), .int ((a2 / 12) - (a2 / 12) / 12 * 12), .int ((a2 / 144) - (a2 / 144) / 300 * 300)]) rfl rfl (Nat.le_of_ble_eq_true rfl) (fun r69 m70 q71 => ?_)
    have h := h r69 m70 q71
    exact e_endJ (pc := 202) dL_act_202 rfl h
  have h := h.2
  by_cases c1_14 : (a1 &&& 15).toInt = 14
  · have h := h.1 c1_14
    refine x_tableIn (pc := 4) (tgt := 203) (off := 199) dL_act_4 (by rw [c1_14]; decide) (by rw [c1_14]; decide) (by rw [c1_14]; rfl) (by decide) ?_
    refine x_aload_n (pc := 203) dL_act_203 0 rfl rfl ?_
    refine x_iload_n (pc := 204) dL_act_204 2 rfl rfl ?_
    refine x_iconst (pc := 205) (v := 1) dL_act_205 (by decide) ?_
    refine x_iand (pc := 206) dL_act_206 ?_
    obtain ⟨Q72, hc73, h⟩ := h
    refine x_callVI (pc := 207) 0 hc73 ok_X6_save dL_act_207 tb_620 ⟨⟨rfl, rfl⟩, ⟨by decide, by decide⟩, by decide, by decide⟩ (mK hG (by decide)) (mc_0 hG _) rfl (As := [.int (a2 &&& 1)]) rfl rfl (Nat.le_of_ble_eq_true rfl) (fun r74 m75 q76 => ?_)
    have h := h r74 m75 q76
    exact e_endJ (pc := 210) dL_act_210 rfl h
  have h := h.2
  have h := h c1_0 c1_1 c1_2 c1_3 c1_4 c1_5 c1_6 c1_7 c1_8 c1_9 c1_10 c1_11 c1_12 c1_13 c1_14
  refine x_tableOut (pc := 4) (tgt := 211) dL_act_4 (out15 (fun k hk => match k, hk with | 0, _ => c1_0 | 1, _ => c1_1 | 2, _ => c1_2 | 3, _ => c1_3 | 4, _ => c1_4 | 5, _ => c1_5 | 6, _ => c1_6 | 7, _ => c1_7 | 8, _ => c1_8 | 9, _ => c1_9 | 10, _ => c1_10 | 11, _ => c1_11 | 12, _ => c1_12 | 13, _ => c1_13 | 14, _ => c1_14 | k + 15, hk => absurd hk (by omega))) (by decide) ?_
  refine x_aload_n (pc := 211) dL_act_211 0 rfl rfl ?_
  refine x_iload_n (pc := 212) dL_act_212 2 rfl rfl ?_
  refine x_iconst (pc := 213) (v := 1) dL_act_213 (by decide) ?_
  refine x_iand (pc := 214) dL_act_214 ?_
  obtain ⟨Q77, hc78, h⟩ := h
  refine x_callVI (pc := 215) 0 hc78 ok_X6_restore dL_act_215 tb_624 ⟨⟨rfl, rfl⟩, ⟨by decide, by decide⟩, by decide, by decide⟩ (mK hG (by decide)) (mc_0 hG _) rfl (As := [.int (a2 &&& 1)]) rfl rfl (Nat.le_of_ble_eq_true rfl) (fun r79 m80 q81 => ?_)
  have h := h r79 m80 q81
  exact e_endJ (pc := 218) dL_act_218 rfl h
