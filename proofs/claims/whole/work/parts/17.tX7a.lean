set_option maxRecDepth 100000 in
set_option maxHeartbeats 4000000 in
theorem t_X7_in_0 {l : Launch} {G : Gx} {P : Int32 → Mem → Prop}  (a0 : Int64) (a2 : Int64) (a4 : Int64) (mem : Mem)
    (h : ((lg_cmp a0 a2) < 0 → (P 0 mem)) ∧ (¬ (lg_cmp a0 a2) < 0 → ((0 < (lg_cmp a0 a4) → (P 0 mem)) ∧ (¬ 0 < (lg_cmp a0 a4) → (P 1 mem))))) :
    XI l M_X7_in G P mem 0 [(0, .long a0), (2, .long a2), (4, .long a4)] [] := by
  refine x_lload_n (pc := 0) dX7_in_0 0 rfl rfl ?_
  refine x_lload_n (pc := 1) dX7_in_1 1 rfl rfl ?_
  refine x_lcmp (pc := 2) dX7_in_2 ?_
  refine x_if_lt (pc := 3) (tgt := 17) dX7_in_3 (by decide) (fun c1 => ?_) (fun c1 => ?_)
  · have h := h.1 c1
    refine x_iconst (pc := 17) (v := 0) dX7_in_17 (by decide) ?_
    exact x_endZ (pc := 18) dX7_in_18 rfl (Or.inl rfl) h
  · have h := h.2 c1
    refine x_lload_n (pc := 6) dX7_in_6 0 rfl rfl ?_
    refine x_lload (pc := 7) dX7_in_7 2 rfl ?_
    refine x_lcmp (pc := 9) dX7_in_9 ?_
    refine x_if_gt (pc := 10) (tgt := 17) dX7_in_10 (by decide) (fun c2 => ?_) (fun c2 => ?_)
    · have h := h.1 c2
      refine x_iconst (pc := 17) (v := 0) dX7_in_17 (by decide) ?_
      exact x_endZ (pc := 18) dX7_in_18 rfl (Or.inl rfl) h
    · have h := h.2 c2
      refine x_iconst (pc := 13) (v := 1) dX7_in_13 (by decide) ?_
      refine x_goto (pc := 14) (tgt := 18) dX7_in_14 (by decide) ?_
      exact x_endZ (pc := 18) dX7_in_18 rfl (Or.inr rfl) h
set_option maxRecDepth 100000 in
set_option maxHeartbeats 4000000 in
theorem t_X7_copy_0 {l : Launch} {G : Gx} {P : Mem → Prop} {r : Nat} (hr : Ra G r) {r2 : Nat} (hr2 : Ra G r2)  (mem : Mem)
    (h : XV l M_X7_copy G P mem 2 [(0, .ref (gA G r)), (1, .ref (gA G r2)), (2, .int 0)] []) :
    XV l M_X7_copy G P mem 0 [(0, .ref (gA G r)), (1, .ref (gA G r2))] [] := by
  refine x_iconst (pc := 0) (v := 0) dX7_copy_0 (by decide) ?_
  refine x_istore_n (pc := 1) dX7_copy_1 rfl (by decide) rfl ?_
  exact x_sub [1, 2, 0] rfl h
set_option maxRecDepth 100000 in
set_option maxHeartbeats 4000000 in
theorem t_X7_copy_2 {l : Launch} {G : Gx} {P : Mem → Prop} {r : Nat} (hr : Ra G r) {r2 : Nat} (hr2 : Ra G r2) (a2 : Int32) (mem : Mem)
    (h : (156 ≤ a2 → (P mem)) ∧ (¬ 156 ≤ a2 → (vp_in a2 156 ∧ (vp_in a2 156 ∧ (XV l M_X7_copy G P (wr mem r2 a2.toNatClampNeg (mem r a2.toNatClampNeg)) 2 [(0, .ref (gA G r)), (1, .ref (gA G r2)), (2, .int (a2 + 1))] []))))) :
    XV l M_X7_copy G P mem 2 [(0, .ref (gA G r)), (1, .ref (gA G r2)), (2, .int a2)] [] := by
  refine x_iload_n (pc := 2) dX7_copy_2 2 rfl rfl ?_
  refine x_sipush (pc := 3) (v := 156) dX7_copy_3 (by decide) ?_
  refine x_icmp_ge (pc := 6) (tgt := 21) dX7_copy_6 (by decide) (fun c1 => ?_) (fun c1 => ?_)
  · have h := h.1 c1
    exact x_endV (pc := 21) dX7_copy_21 rfl h
  · have h := h.2 c1
    refine x_aload_n (pc := 9) dX7_copy_9 1 rfl rfl ?_
    refine x_iload_n (pc := 10) dX7_copy_10 2 rfl rfl ?_
    refine x_aload_n (pc := 11) dX7_copy_11 0 rfl rfl ?_
    refine x_iload_n (pc := 12) dX7_copy_12 2 rfl rfl ?_
    have n2 := h.1
    refine x_iald (pc := 13) r dX7_copy_13 (Ra_K hr) (Ra_c hr _) n2 ?_
    have h := h.2
    have n3 := h.1
    have h := h.2
    refine x_iast (pc := 14) r2 dX7_copy_14 (Ra_K hr2) (Ra_c hr2) n3 ?_
    refine x_iinc (pc := 15) (v := (a2 + 1)) dX7_copy_15 (k := 2) rfl rfl (by decide) rfl ?_
    refine x_goto (pc := 18) (tgt := 2) dX7_copy_18 (by decide) ?_
    exact x_sub [1, 2, 0] rfl h
set_option maxRecDepth 100000 in
set_option maxHeartbeats 4000000 in
theorem t_X7_at_0 {l : Launch} {G : Gx} {P : Int32 → Mem → Prop}  (a0 : Int32) (a1 : Int32) (mem : Mem)
    (h : P ((12 + (12 * a0)) + a1) mem) :
    XI l M_X7_at G P mem 0 [(0, .int a0), (1, .int a1)] [] := by
  refine x_bipush (pc := 0) (v := 12) dX7_at_0 (by decide) ?_
  refine x_bipush (pc := 2) (v := 12) dX7_at_2 (by decide) ?_
  refine x_iload_n (pc := 4) dX7_at_4 0 rfl rfl ?_
  refine x_imul (pc := 5) dX7_at_5 ?_
  refine x_iadd (pc := 6) dX7_at_6 ?_
  refine x_iload_n (pc := 7) dX7_at_7 1 rfl rfl ?_
  refine x_iadd (pc := 8) dX7_at_8 ?_
  exact x_endI (pc := 9) dX7_at_9 rfl h
set_option maxRecDepth 100000 in
set_option maxHeartbeats 4000000 in
theorem t_X7_isVertex_0 {l : Launch} {G : Gx} {P : Int32 → Mem → Prop} (hG : Mn G) (a1 : Int32) (mem : Mem)
    (h : ∃ Q1 : Int32 → Mem → Prop, CtI l M_X7_in G [.long ((a1 : Int32).toInt64), .long 0, .long ((((mem 327 3) - 1) : Int32).toInt64)] mem Q1 ∧ ∀ (r3 : Int32) (m4 : Mem), Q1 r3 m4 → ((r3 = 0 ∨ r3 = 1) ∧ P r3 m4)) :
    XI l M_X7_isVertex G P mem 0 [(0, .ref (gA G 327)), (1, .int a1)] [] := by
  refine x_iload_n (pc := 0) dX7_isVertex_0 1 rfl rfl ?_
  refine x_i2l (pc := 1) dX7_isVertex_1 ?_
  refine x_lconst (pc := 2) (v := 0) dX7_isVertex_2 rfl ?_
  refine x_aload_n (pc := 3) dX7_isVertex_3 0 rfl rfl ?_
  refine x_get (pc := 4) 327 3 dX7_isVertex_4 (mK hG (by decide)) (mc_327 hG _) rfl inX7 (by decide) tb_714 rfl rfl ?_
  refine x_iconst (pc := 7) (v := 1) dX7_isVertex_7 (by decide) ?_
  refine x_isub (pc := 8) dX7_isVertex_8 ?_
  refine x_i2l (pc := 9) dX7_isVertex_9 ?_
  obtain ⟨Q1, hc2, h⟩ := h
  refine x_callSI (pc := 10) hc2 ok_X7_in dX7_isVertex_10 tb_789 ⟨⟨rfl, rfl⟩, ⟨by decide, by decide⟩, by decide, by decide⟩ rfl rfl (Nat.le_of_ble_eq_true rfl) (fun r3 m4 q5 => ?_)
  have h := h r3 m4 q5
  exact x_endZ (pc := 13) dX7_isVertex_13 rfl h.1 h.2
set_option maxRecDepth 100000 in
set_option maxHeartbeats 4000000 in
theorem t_X7_edgesOf_0 {l : Launch} {G : Gx} {P : Int32 → Mem → Prop} {r : Nat} (hr : Ra G r)  (mem : Mem)
    (h : XI l M_X7_edgesOf G P mem 5 [(0, .ref (gA G r)), (1, .int 0), (2, .int 12)] []) :
    XI l M_X7_edgesOf G P mem 0 [(0, .ref (gA G r))] [] := by
  refine x_iconst (pc := 0) (v := 0) dX7_edgesOf_0 (by decide) ?_
  refine x_istore_n (pc := 1) dX7_edgesOf_1 rfl (by decide) rfl ?_
  refine x_bipush (pc := 2) (v := 12) dX7_edgesOf_2 (by decide) ?_
  refine x_istore_n (pc := 4) dX7_edgesOf_4 rfl (by decide) rfl ?_
  exact x_sub [2, 1, 0] rfl h
set_option maxRecDepth 100000 in
set_option maxHeartbeats 4000000 in
theorem t_X7_edgesOf_5 {l : Launch} {G : Gx} {P : Int32 → Mem → Prop} {r : Nat} (hr : Ra G r) (a1 : Int32) (a2 : Int32) (mem : Mem)
    (h : (156 ≤ a2 → (P (a1 / 2) mem)) ∧ (¬ 156 ≤ a2 → (vp_in a2 156 ∧ (((mem r a2.toNatClampNeg) ≤ 0 → (XI l M_X7_edgesOf G P mem 5 [(0, .ref (gA G r)), (1, .int (a1 + 0)), (2, .int (a2 + 1))] [])) ∧ (¬ (mem r a2.toNatClampNeg) ≤ 0 → (XI l M_X7_edgesOf G P mem 5 [(0, .ref (gA G r)), (1, .int (a1 + 1)), (2, .int (a2 + 1))] [])))))) :
    XI l M_X7_edgesOf G P mem 5 [(0, .ref (gA G r)), (1, .int a1), (2, .int a2)] [] := by
  refine x_iload_n (pc := 5) dX7_edgesOf_5 2 rfl rfl ?_
  refine x_sipush (pc := 6) (v := 156) dX7_edgesOf_6 (by decide) ?_
  refine x_icmp_ge (pc := 9) (tgt := 32) dX7_edgesOf_9 (by decide) (fun c1 => ?_) (fun c1 => ?_)
  · have h := h.1 c1
    refine x_iload_n (pc := 32) dX7_edgesOf_32 1 rfl rfl ?_
    refine x_iconst (pc := 33) (v := 2) dX7_edgesOf_33 (by decide) ?_
    refine x_idiv (pc := 34) dX7_edgesOf_34 (by decide) ?_
    exact x_endI (pc := 35) dX7_edgesOf_35 rfl h
  · have h := h.2 c1
    refine x_iload_n (pc := 12) dX7_edgesOf_12 1 rfl rfl ?_
    refine x_aload_n (pc := 13) dX7_edgesOf_13 0 rfl rfl ?_
    refine x_iload_n (pc := 14) dX7_edgesOf_14 2 rfl rfl ?_
    have n2 := h.1
    refine x_iald (pc := 15) r dX7_edgesOf_15 (Ra_K hr) (Ra_c hr _) n2 ?_
    have h := h.2
    refine x_if_le (pc := 16) (tgt := 23) dX7_edgesOf_16 (by decide) (fun c3 => ?_) (fun c3 => ?_)
    · have h := h.1 c3
      refine x_iconst (pc := 23) (v := 0) dX7_edgesOf_23 (by decide) ?_
      refine x_iadd (pc := 24) dX7_edgesOf_24 ?_
      refine x_istore_n (pc := 25) dX7_edgesOf_25 rfl (by decide) rfl ?_
      refine x_iinc (pc := 26) (v := (a2 + 1)) dX7_edgesOf_26 (k := 2) rfl rfl (by decide) rfl ?_
      refine x_goto (pc := 29) (tgt := 5) dX7_edgesOf_29 (by decide) ?_
      exact x_sub [2, 1, 0] rfl h
    · have h := h.2 c3
      refine x_iconst (pc := 19) (v := 1) dX7_edgesOf_19 (by decide) ?_
      refine x_goto (pc := 20) (tgt := 24) dX7_edgesOf_20 (by decide) ?_
      refine x_iadd (pc := 24) dX7_edgesOf_24 ?_
      refine x_istore_n (pc := 25) dX7_edgesOf_25 rfl (by decide) rfl ?_
      refine x_iinc (pc := 26) (v := (a2 + 1)) dX7_edgesOf_26 (k := 2) rfl rfl (by decide) rfl ?_
      refine x_goto (pc := 29) (tgt := 5) dX7_edgesOf_29 (by decide) ?_
      exact x_sub [2, 1, 0] rfl h
set_option maxRecDepth 100000 in
set_option maxHeartbeats 4000000 in
theorem t_X7_join_0 {l : Launch} {G : Gx} {P : Mem → Prop} {r : Nat} (hr : Ra G r) (a1 : Int32) (a2 : Int32) (a3 : Int32) (mem : Mem)
    (h : ∃ Q1 : Int32 → Mem → Prop, CtI l M_X7_at G [.int a1, .int a2] mem Q1 ∧ ∀ (r3 : Int32) (m4 : Mem), Q1 r3 m4 → (vp_in r3 156 ∧ (∃ Q7 : Int32 → Mem → Prop, CtI l M_X7_at G [.int a2, .int a1] (wr m4 r r3.toNatClampNeg a3) Q7 ∧ ∀ (r9 : Int32) (m10 : Mem), Q7 r9 m10 → (vp_in r9 156 ∧ (P (wr m10 r r9.toNatClampNeg a3)))))) :
    XV l M_X7_join G P mem 0 [(0, .ref (gA G r)), (1, .int a1), (2, .int a2), (3, .int a3)] [] := by
  refine x_aload_n (pc := 0) dX7_join_0 0 rfl rfl ?_
  refine x_iload_n (pc := 1) dX7_join_1 1 rfl rfl ?_
  refine x_iload_n (pc := 2) dX7_join_2 2 rfl rfl ?_
  obtain ⟨Q1, hc2, h⟩ := h
  refine x_callSI (pc := 3) hc2 ok_X7_at dX7_join_3 tb_828 ⟨⟨rfl, rfl⟩, ⟨by decide, by decide⟩, by decide, by decide⟩ rfl rfl (Nat.le_of_ble_eq_true rfl) (fun r3 m4 q5 => ?_)
  have h := h r3 m4 q5
  refine x_iload_n (pc := 6) dX7_join_6 3 rfl rfl ?_
  have n6 := h.1
  have h := h.2
  refine x_iast (pc := 7) r dX7_join_7 (Ra_K hr) (Ra_c hr) n6 ?_
  refine x_aload_n (pc := 8) dX7_join_8 0 rfl rfl ?_
  refine x_iload_n (pc := 9) dX7_join_9 2 rfl rfl ?_
  refine x_iload_n (pc := 10) dX7_join_10 1 rfl rfl ?_
  obtain ⟨Q7, hc8, h⟩ := h
  refine x_callSI (pc := 11) hc8 ok_X7_at dX7_join_11 tb_828 ⟨⟨rfl, rfl⟩, ⟨by decide, by decide⟩, by decide, by decide⟩ rfl rfl (Nat.le_of_ble_eq_true rfl) (fun r9 m10 q11 => ?_)
  have h := h r9 m10 q11
  refine x_iload_n (pc := 14) dX7_join_14 3 rfl rfl ?_
  have n12 := h.1
  have h := h.2
  refine x_iast (pc := 15) r dX7_join_15 (Ra_K hr) (Ra_c hr) n12 ?_
  exact x_endV (pc := 16) dX7_join_16 rfl h
set_option maxRecDepth 100000 in
set_option maxHeartbeats 4000000 in
theorem t_X7_layFar_0 {l : Launch} {G : Gx} {P : Mem → Prop} (hG : Mn G) {r : Nat} (hr : Ra G r) (a2 : Int32) (mem : Mem)
    (h : XV l M_X7_layFar G P mem 2 [(0, .ref (gA G 327)), (1, .ref (gA G r)), (2, .int a2), (3, .int 0)] []) :
    XV l M_X7_layFar G P mem 0 [(0, .ref (gA G 327)), (1, .ref (gA G r)), (2, .int a2)] [] := by
  refine x_iconst (pc := 0) (v := 0) dX7_layFar_0 (by decide) ?_
  refine x_istore_n (pc := 1) dX7_layFar_1 rfl (by decide) rfl ?_
  exact x_sub [1, 2, 3, 0] rfl h
set_option maxRecDepth 100000 in
set_option maxHeartbeats 4000000 in
theorem t_X7_layFar_2 {l : Launch} {G : Gx} {P : Mem → Prop} (hG : Mn G) {r : Nat} (hr : Ra G r) (a2 : Int32) (a3 : Int32) (mem : Mem)
    (h : (12 ≤ a3 → (XV l M_X7_layFar G P mem 50 [(0, .ref (gA G 327)), (1, .ref (gA G r)), (3, .int 1)] [])) ∧ (¬ 12 ≤ a3 → ((¬ a3 = a2 → (vp_in a3 12 ∧ ((¬ a3 = a2 → (vp_in a3 12 ∧ (XV l M_X7_layFar G P (wr (wr mem 336 a3.toNatClampNeg (-9)) 337 a3.toNatClampNeg (-9)) 2 [(0, .ref (gA G 327)), (1, .ref (gA G r)), (2, .int a2), (3, .int (a3 + 1))] []))) ∧ (a3 = a2 → (vp_in a3 12 ∧ (XV l M_X7_layFar G P (wr (wr mem 336 a3.toNatClampNeg (-9)) 337 a3.toNatClampNeg 0) 2 [(0, .ref (gA G 327)), (1, .ref (gA G r)), (2, .int a2), (3, .int (a3 + 1))] [])))))) ∧ (a3 = a2 → (vp_in a3 12 ∧ ((¬ a3 = a2 → (vp_in a3 12 ∧ (XV l M_X7_layFar G P (wr (wr mem 336 a3.toNatClampNeg 0) 337 a3.toNatClampNeg (-9)) 2 [(0, .ref (gA G 327)), (1, .ref (gA G r)), (2, .int a2), (3, .int (a3 + 1))] []))) ∧ (a3 = a2 → (vp_in a3 12 ∧ (XV l M_X7_layFar G P (wr (wr mem 336 a3.toNatClampNeg 0) 337 a3.toNatClampNeg 0) 2 [(0, .ref (gA G 327)), (1, .ref (gA G r)), (2, .int a2), (3, .int (a3 + 1))] []))))))))) :
    XV l M_X7_layFar G P mem 2 [(0, .ref (gA G 327)), (1, .ref (gA G r)), (2, .int a2), (3, .int a3)] [] := by
  refine x_iload_n (pc := 2) dX7_layFar_2 3 rfl rfl ?_
  refine x_bipush (pc := 3) (v := 12) dX7_layFar_3 (by decide) ?_
  refine x_icmp_ge (pc := 5) (tgt := 48) dX7_layFar_5 (by decide) (fun c1 => ?_) (fun c1 => ?_)
  · have h := h.1 c1
    refine x_iconst (pc := 48) (v := 1) dX7_layFar_48 (by decide) ?_
    refine x_istore_n (pc := 49) dX7_layFar_49 rfl (by decide) rfl ?_
    exact x_sub [1, 2, 0] rfl h
  · have h := h.2 c1
    refine x_aload_n (pc := 8) dX7_layFar_8 0 rfl rfl ?_
    refine x_get (pc := 9) 327 15 dX7_layFar_9 (mK hG (by decide)) (mc_327 hG _) rfl inX7 (by decide) tb_726 rfl rfl ?_
    refine x_iload_n (pc := 12) dX7_layFar_12 3 rfl rfl ?_
    refine x_iload_n (pc := 13) dX7_layFar_13 3 rfl rfl ?_
    refine x_iload_n (pc := 14) dX7_layFar_14 2 rfl rfl ?_
    refine x_icmp_ne (pc := 15) (tgt := 22) dX7_layFar_15 (by decide) (fun c2 => ?_) (fun c2 => ?_)
    · have h := h.1 c2
      refine x_bipush (pc := 22) (v := (-9)) dX7_layFar_22 (by decide) ?_
      have n3 := h.1
      have h := h.2
      refine x_iast (pc := 24) 336 dX7_layFar_24 (mK hG (by decide)) (mc_336 hG) n3 ?_
      refine x_aload_n (pc := 25) dX7_layFar_25 0 rfl rfl ?_
      refine x_get (pc := 26) 327 16 dX7_layFar_26 (mK hG (by decide)) (mc_327 hG _) rfl inX7 (by decide) tb_727 rfl rfl ?_
      refine x_iload_n (pc := 29) dX7_layFar_29 3 rfl rfl ?_
      refine x_iload_n (pc := 30) dX7_layFar_30 3 rfl rfl ?_
      refine x_iload_n (pc := 31) dX7_layFar_31 2 rfl rfl ?_
      refine x_icmp_ne (pc := 32) (tgt := 39) dX7_layFar_32 (by decide) (fun c4 => ?_) (fun c4 => ?_)
      · have h := h.1 c4
        refine x_bipush (pc := 39) (v := (-9)) dX7_layFar_39 (by decide) ?_
        have n5 := h.1
        have h := h.2
        refine x_iast (pc := 41) 337 dX7_layFar_41 (mK hG (by decide)) (mc_337 hG) n5 ?_
        refine x_iinc (pc := 42) (v := (a3 + 1)) dX7_layFar_42 (k := 3) rfl rfl (by decide) rfl ?_
        refine x_goto (pc := 45) (tgt := 2) dX7_layFar_45 (by decide) ?_
        exact x_sub [1, 2, 3, 0] rfl h
      · have h := h.2 c4
        refine x_iconst (pc := 35) (v := 0) dX7_layFar_35 (by decide) ?_
        refine x_goto (pc := 36) (tgt := 41) dX7_layFar_36 (by decide) ?_
        have n6 := h.1
        have h := h.2
        refine x_iast (pc := 41) 337 dX7_layFar_41 (mK hG (by decide)) (mc_337 hG) n6 ?_
        refine x_iinc (pc := 42) (v := (a3 + 1)) dX7_layFar_42 (k := 3) rfl rfl (by decide) rfl ?_
        refine x_goto (pc := 45) (tgt := 2) dX7_layFar_45 (by decide) ?_
        exact x_sub [1, 2, 3, 0] rfl h
    · have h := h.2 c2
      refine x_iconst (pc := 18) (v := 0) dX7_layFar_18 (by decide) ?_
      refine x_goto (pc := 19) (tgt := 24) dX7_layFar_19 (by decide) ?_
      have n7 := h.1
      have h := h.2
      refine x_iast (pc := 24) 336 dX7_layFar_24 (mK hG (by decide)) (mc_336 hG) n7 ?_
      refine x_aload_n (pc := 25) dX7_layFar_25 0 rfl rfl ?_
      refine x_get (pc := 26) 327 16 dX7_layFar_26 (mK hG (by decide)) (mc_327 hG _) rfl inX7 (by decide) tb_727 rfl rfl ?_
      refine x_iload_n (pc := 29) dX7_layFar_29 3 rfl rfl ?_
      refine x_iload_n (pc := 30) dX7_layFar_30 3 rfl rfl ?_
      refine x_iload_n (pc := 31) dX7_layFar_31 2 rfl rfl ?_
      refine x_icmp_ne (pc := 32) (tgt := 39) dX7_layFar_32 (by decide) (fun c8 => ?_) (fun c8 => ?_)
      · have h := h.1 c8
        refine x_bipush (pc := 39) (v := (-9)) dX7_layFar_39 (by decide) ?_
        have n9 := h.1
        have h := h.2
        refine x_iast (pc := 41) 337 dX7_layFar_41 (mK hG (by decide)) (mc_337 hG) n9 ?_
        refine x_iinc (pc := 42) (v := (a3 + 1)) dX7_layFar_42 (k := 3) rfl rfl (by decide) rfl ?_
        refine x_goto (pc := 45) (tgt := 2) dX7_layFar_45 (by decide) ?_
        exact x_sub [1, 2, 3, 0] rfl h
      · have h := h.2 c8
        refine x_iconst (pc := 35) (v := 0) dX7_layFar_35 (by decide) ?_
        refine x_goto (pc := 36) (tgt := 41) dX7_layFar_36 (by decide) ?_
        have n10 := h.1
        have h := h.2
        refine x_iast (pc := 41) 337 dX7_layFar_41 (mK hG (by decide)) (mc_337 hG) n10 ?_
        refine x_iinc (pc := 42) (v := (a3 + 1)) dX7_layFar_42 (k := 3) rfl rfl (by decide) rfl ?_
        refine x_goto (pc := 45) (tgt := 2) dX7_layFar_45 (by decide) ?_
        exact x_sub [1, 2, 3, 0] rfl h
set_option maxRecDepth 100000 in
set_option maxHeartbeats 4000000 in
theorem t_X7_layFar_50 {l : Launch} {G : Gx} {P : Mem → Prop} (hG : Mn G) {r : Nat} (hr : Ra G r) (a3 : Int32) (mem : Mem)
    (h : (a3 = 0 → (P mem)) ∧ (¬ a3 = 0 → (XV l M_X7_layFar G P mem 59 [(0, .ref (gA G 327)), (1, .ref (gA G r)), (3, .int 0), (4, .int 0)] []))) :
    XV l M_X7_layFar G P mem 50 [(0, .ref (gA G 327)), (1, .ref (gA G r)), (3, .int a3)] [] := by
  refine x_iload_n (pc := 50) dX7_layFar_50 2 rfl rfl ?_
  refine x_if_eq (pc := 51) (tgt := 169) dX7_layFar_51 (by decide) (fun c1 => ?_) (fun c1 => ?_)
  · have h := h.1 c1
    exact x_endV (pc := 169) dX7_layFar_169 rfl h
  · have h := h.2 c1
    refine x_iconst (pc := 54) (v := 0) dX7_layFar_54 (by decide) ?_
    refine x_istore_n (pc := 55) dX7_layFar_55 rfl (by decide) rfl ?_
    refine x_iconst (pc := 56) (v := 0) dX7_layFar_56 (by decide) ?_
    refine x_istore (pc := 57) dX7_layFar_57 (by decide) rfl ?_
    exact x_sub [2, 3, 1, 0] rfl h
set_option maxRecDepth 100000 in
set_option maxHeartbeats 4000000 in
theorem t_X7_layFar_59 {l : Launch} {G : Gx} {P : Mem → Prop} (hG : Mn G) {r : Nat} (hr : Ra G r) (a3 : Int32) (a4 : Int32) (mem : Mem)
    (h : (12 ≤ a4 → (XV l M_X7_layFar G P mem 50 [(0, .ref (gA G 327)), (1, .ref (gA G r)), (3, .int a3)] [])) ∧ (¬ 12 ≤ a4 → (XV l M_X7_layFar G P mem 69 [(0, .ref (gA G 327)), (1, .ref (gA G r)), (3, .int a3), (4, .int a4), (5, .int 0)] []))) :
    XV l M_X7_layFar G P mem 59 [(0, .ref (gA G 327)), (1, .ref (gA G r)), (3, .int a3), (4, .int a4)] [] := by
  refine x_iload (pc := 59) dX7_layFar_59 3 rfl ?_
  refine x_bipush (pc := 61) (v := 12) dX7_layFar_61 (by decide) ?_
  refine x_icmp_ge (pc := 63) (tgt := 166) dX7_layFar_63 (by decide) (fun c1 => ?_) (fun c1 => ?_)
  · have h := h.1 c1
    refine x_goto (pc := 166) (tgt := 50) dX7_layFar_166 (by decide) ?_
    exact x_sub [0, 1, 2] rfl h
  · have h := h.2 c1
    refine x_iconst (pc := 66) (v := 0) dX7_layFar_66 (by decide) ?_
    refine x_istore (pc := 67) dX7_layFar_67 (by decide) rfl ?_
    exact x_sub [1, 2, 3, 4, 0] rfl h
set_option maxRecDepth 100000 in
set_option maxHeartbeats 4000000 in
theorem t_X7_layFar_69 {l : Launch} {G : Gx} {P : Mem → Prop} (hG : Mn G) {r : Nat} (hr : Ra G r) (a3 : Int32) (a4 : Int32) (a5 : Int32) (mem : Mem)
    (h : (12 ≤ a5 → (XV l M_X7_layFar G P mem 59 [(0, .ref (gA G 327)), (1, .ref (gA G r)), (3, .int a3), (4, .int (a4 + 1))] [])) ∧ (¬ 12 ≤ a5 → (vp_in a4 12 ∧ (((mem 336 a4.toNatClampNeg) = (-9) → (XV l M_X7_layFar G P mem 59 [(0, .ref (gA G 327)), (1, .ref (gA G r)), (3, .int a3), (4, .int (a4 + 1))] [])) ∧ (¬ (mem 336 a4.toNatClampNeg) = (-9) → (∃ Q4 : Int32 → Mem → Prop, CtI l M_X7_at G [.int a4, .int a5] mem Q4 ∧ ∀ (r6 : Int32) (m7 : Mem), Q4 r6 m7 → (vp_in r6 156 ∧ (((m7 r r6.toNatClampNeg) ≤ 0 → (XV l M_X7_layFar G P m7 69 [(0, .ref (gA G 327)), (1, .ref (gA G r)), (3, .int a3), (4, .int a4), (5, .int (a5 + 1))] [])) ∧ (¬ (m7 r r6.toNatClampNeg) ≤ 0 → (vp_in a5 12 ∧ ((¬ (m7 336 a5.toNatClampNeg) = (-9) → (XV l M_X7_layFar G P m7 69 [(0, .ref (gA G 327)), (1, .ref (gA G r)), (3, .int a3), (4, .int a4), (5, .int (a5 + 1))] [])) ∧ ((m7 336 a5.toNatClampNeg) = (-9) → (vp_in a4 12 ∧ (∃ Q14 : Int32 → Mem → Prop, CtI l M_X7_at G [.int a4, .int a5] m7 Q14 ∧ ∀ (r16 : Int32) (m17 : Mem), Q14 r16 m17 → (vp_in r16 156 ∧ (vp_in a5 12 ∧ (vp_in a4 12 ∧ (vp_in a5 12 ∧ (XV l M_X7_layFar G P (wr (wr m17 336 a5.toNatClampNeg ((m7 336 a4.toNatClampNeg) + (m17 r r16.toNatClampNeg))) 337 a5.toNatClampNeg (((wr m17 336 a5.toNatClampNeg ((m7 336 a4.toNatClampNeg) + (m17 r r16.toNatClampNeg))) 337 a4.toNatClampNeg) + 1)) 69 [(0, .ref (gA G 327)), (1, .ref (gA G r)), (3, .int 1), (4, .int a4), (5, .int (a5 + 1))] []))))))))))))))))))) :
    XV l M_X7_layFar G P mem 69 [(0, .ref (gA G 327)), (1, .ref (gA G r)), (3, .int a3), (4, .int a4), (5, .int a5)] [] := by
  refine x_iload (pc := 69) dX7_layFar_69 4 rfl ?_
  refine x_bipush (pc := 71) (v := 12) dX7_layFar_71 (by decide) ?_
  refine x_icmp_ge (pc := 73) (tgt := 160) dX7_layFar_73 (by decide) (fun c1 => ?_) (fun c1 => ?_)
  · have h := h.1 c1
    refine x_iinc (pc := 160) (v := (a4 + 1)) dX7_layFar_160 (k := 3) rfl rfl (by decide) rfl ?_
    refine x_goto (pc := 163) (tgt := 59) dX7_layFar_163 (by decide) ?_
    exact x_sub [1, 2, 3, 0] rfl h
  · have h := h.2 c1
    refine x_aload_n (pc := 76) dX7_layFar_76 0 rfl rfl ?_
    refine x_get (pc := 77) 327 15 dX7_layFar_77 (mK hG (by decide)) (mc_327 hG _) rfl inX7 (by decide) tb_726 rfl rfl ?_
    refine x_iload (pc := 80) dX7_layFar_80 3 rfl ?_
    have n2 := h.1
    refine x_iald (pc := 82) 336 dX7_layFar_82 (mK hG (by decide)) (mc_336 hG _) n2 ?_
    have h := h.2
    refine x_bipush (pc := 83) (v := (-9)) dX7_layFar_83 (by decide) ?_
    refine x_icmp_eq (pc := 85) (tgt := 160) dX7_layFar_85 (by decide) (fun c3 => ?_) (fun c3 => ?_)
    · have h := h.1 c3
      refine x_iinc (pc := 160) (v := (a4 + 1)) dX7_layFar_160 (k := 3) rfl rfl (by decide) rfl ?_
      refine x_goto (pc := 163) (tgt := 59) dX7_layFar_163 (by decide) ?_
      exact x_sub [1, 2, 3, 0] rfl h
    · have h := h.2 c3
      refine x_aload_n (pc := 88) dX7_layFar_88 1 rfl rfl ?_
      refine x_iload (pc := 89) dX7_layFar_89 3 rfl ?_
      refine x_iload (pc := 91) dX7_layFar_91 4 rfl ?_
      obtain ⟨Q4, hc5, h⟩ := h
      refine x_callSI (pc := 93) hc5 ok_X7_at dX7_layFar_93 tb_828 ⟨⟨rfl, rfl⟩, ⟨by decide, by decide⟩, by decide, by decide⟩ rfl rfl (Nat.le_of_ble_eq_true rfl) (fun r6 m7 q8 => ?_)
      have h := h r6 m7 q8
      have n9 := h.1
      refine x_iald (pc := 96) r dX7_layFar_96 (Ra_K hr) (Ra_c hr _) n9 ?_
      have h := h.2
      refine x_if_le (pc := 97) (tgt := 154) dX7_layFar_97 (by decide) (fun c10 => ?_) (fun c10 => ?_)
      · have h := h.1 c10
        refine x_iinc (pc := 154) (v := (a5 + 1)) dX7_layFar_154 (k := 4) rfl rfl (by decide) rfl ?_
        refine x_goto (pc := 157) (tgt := 69) dX7_layFar_157 (by decide) ?_
        exact x_sub [1, 2, 3, 4, 0] rfl h
      · have h := h.2 c10
        refine x_aload_n (pc := 100) dX7_layFar_100 0 rfl rfl ?_
        refine x_get (pc := 101) 327 15 dX7_layFar_101 (mK hG (by decide)) (mc_327 hG _) rfl inX7 (by decide) tb_726 rfl rfl ?_
        refine x_iload (pc := 104) dX7_layFar_104 4 rfl ?_
        have n11 := h.1
        refine x_iald (pc := 106) 336 dX7_layFar_106 (mK hG (by decide)) (mc_336 hG _) n11 ?_
        have h := h.2
        refine x_bipush (pc := 107) (v := (-9)) dX7_layFar_107 (by decide) ?_
        refine x_icmp_ne (pc := 109) (tgt := 154) dX7_layFar_109 (by decide) (fun c12 => ?_) (fun c12 => ?_)
        · have h := h.1 c12
          refine x_iinc (pc := 154) (v := (a5 + 1)) dX7_layFar_154 (k := 4) rfl rfl (by decide) rfl ?_
          refine x_goto (pc := 157) (tgt := 69) dX7_layFar_157 (by decide) ?_
          exact x_sub [1, 2, 3, 4, 0] rfl h
        · have h := h.2 c12
          refine x_aload_n (pc := 112) dX7_layFar_112 0 rfl rfl ?_
          refine x_get (pc := 113) 327 15 dX7_layFar_113 (mK hG (by decide)) (mc_327 hG _) rfl inX7 (by decide) tb_726 rfl rfl ?_
          refine x_iload (pc := 116) dX7_layFar_116 4 rfl ?_
          refine x_aload_n (pc := 118) dX7_layFar_118 0 rfl rfl ?_
          refine x_get (pc := 119) 327 15 dX7_layFar_119 (mK hG (by decide)) (mc_327 hG _) rfl inX7 (by decide) tb_726 rfl rfl ?_
          refine x_iload (pc := 122) dX7_layFar_122 3 rfl ?_
          have n13 := h.1
          refine x_iald (pc := 124) 336 dX7_layFar_124 (mK hG (by decide)) (mc_336 hG _) n13 ?_
          have h := h.2
          refine x_aload_n (pc := 125) dX7_layFar_125 1 rfl rfl ?_
          refine x_iload (pc := 126) dX7_layFar_126 3 rfl ?_
          refine x_iload (pc := 128) dX7_layFar_128 4 rfl ?_
          obtain ⟨Q14, hc15, h⟩ := h
          refine x_callSI (pc := 130) hc15 ok_X7_at dX7_layFar_130 tb_828 ⟨⟨rfl, rfl⟩, ⟨by decide, by decide⟩, by decide, by decide⟩ rfl rfl (Nat.le_of_ble_eq_true rfl) (fun r16 m17 q18 => ?_)
          have h := h r16 m17 q18
          have n19 := h.1
          refine x_iald (pc := 133) r dX7_layFar_133 (Ra_K hr) (Ra_c hr _) n19 ?_
          have h := h.2
          refine x_iadd (pc := 134) dX7_layFar_134 ?_
          have n20 := h.1
          have h := h.2
          refine x_iast (pc := 135) 336 dX7_layFar_135 (mK hG (by decide)) (mc_336 hG) n20 ?_
          refine x_aload_n (pc := 136) dX7_layFar_136 0 rfl rfl ?_
          refine x_get (pc := 137) 327 16 dX7_layFar_137 (mK hG (by decide)) (mc_327 hG _) rfl inX7 (by decide) tb_727 rfl rfl ?_
          refine x_iload (pc := 140) dX7_layFar_140 4 rfl ?_
          refine x_aload_n (pc := 142) dX7_layFar_142 0 rfl rfl ?_
          refine x_get (pc := 143) 327 16 dX7_layFar_143 (mK hG (by decide)) (mc_327 hG _) rfl inX7 (by decide) tb_727 rfl rfl ?_
          refine x_iload (pc := 146) dX7_layFar_146 3 rfl ?_
          have n21 := h.1
          refine x_iald (pc := 148) 337 dX7_layFar_148 (mK hG (by decide)) (mc_337 hG _) n21 ?_
          have h := h.2
          refine x_iconst (pc := 149) (v := 1) dX7_layFar_149 (by decide) ?_
          refine x_iadd (pc := 150) dX7_layFar_150 ?_
          have n22 := h.1
          have h := h.2
          refine x_iast (pc := 151) 337 dX7_layFar_151 (mK hG (by decide)) (mc_337 hG) n22 ?_
          refine x_iconst (pc := 152) (v := 1) dX7_layFar_152 (by decide) ?_
          refine x_istore_n (pc := 153) dX7_layFar_153 rfl (by decide) rfl ?_
          refine x_iinc (pc := 154) (v := (a5 + 1)) dX7_layFar_154 (k := 4) rfl rfl (by decide) rfl ?_
          refine x_goto (pc := 157) (tgt := 69) dX7_layFar_157 (by decide) ?_
          exact x_sub [2, 3, 1, 4, 0] rfl h
set_option maxRecDepth 100000 in
set_option maxHeartbeats 4000000 in
theorem t_X7_farOf_0 {l : Launch} {G : Gx} {P : Int32 → Mem → Prop} (hG : Mn G) {r : Nat} (hr : Ra G r) (a2 : Int32) (a3 : Int32) (mem : Mem)
    (h : ∃ Q1 : Mem → Prop, CtV l M_X7_layFar G [.ref (gA G 327), .ref (gA G r), .int a2] mem Q1 ∧ ∀ m4 : Mem, Q1 m4 → (vp_in a3 12 ∧ (P (m4 336 a3.toNatClampNeg) m4))) :
    XI l M_X7_farOf G P mem 0 [(0, .ref (gA G 327)), (1, .ref (gA G r)), (2, .int a2), (3, .int a3)] [] := by
  refine x_aload_n (pc := 0) dX7_farOf_0 0 rfl rfl ?_
  refine x_aload_n (pc := 1) dX7_farOf_1 1 rfl rfl ?_
  refine x_iload_n (pc := 2) dX7_farOf_2 2 rfl rfl ?_
  obtain ⟨Q1, hc2, h⟩ := h
  refine x_callVV (pc := 3) 327 hc2 ok_X7_layFar dX7_farOf_3 tb_824 ⟨⟨rfl, rfl⟩, ⟨by decide, by decide⟩, by decide, by decide⟩ (mK hG (by decide)) (mc_327 hG _) rfl (As := [.ref (gA G r), .int a2]) rfl rfl (Nat.le_of_ble_eq_true rfl) (fun m4 q5 => ?_)
  have h := h m4 q5
  refine x_aload_n (pc := 6) dX7_farOf_6 0 rfl rfl ?_
  refine x_get (pc := 7) 327 15 dX7_farOf_7 (mK hG (by decide)) (mc_327 hG _) rfl inX7 (by decide) tb_726 rfl rfl ?_
  refine x_iload_n (pc := 10) dX7_farOf_10 3 rfl rfl ?_
  have n6 := h.1
  refine x_iald (pc := 11) 336 dX7_farOf_11 (mK hG (by decide)) (mc_336 hG _) n6 ?_
  have h := h.2
  exact x_endI (pc := 12) dX7_farOf_12 rfl h
set_option maxRecDepth 100000 in
set_option maxHeartbeats 4000000 in
theorem t_X7_isOneTree_0 {l : Launch} {G : Gx} {P : Int32 → Mem → Prop} (hG : Mn G) {r : Nat} (hr : Ra G r) (a2 : Int32) (a3 : Int32) (mem : Mem)
    (h : ∃ Q1 : Int32 → Mem → Prop, CtI l M_X7_farOf G [.ref (gA G 327), .ref (gA G r), .int a2, .int a3] mem Q1 ∧ ∀ (r3 : Int32) (m4 : Mem), Q1 r3 m4 → ((r3 = (-9) → (P 0 m4)) ∧ (¬ r3 = (-9) → (P 1 m4)))) :
    XI l M_X7_isOneTree G P mem 0 [(0, .ref (gA G 327)), (1, .ref (gA G r)), (2, .int a2), (3, .int a3)] [] := by
  refine x_aload_n (pc := 0) dX7_isOneTree_0 0 rfl rfl ?_
  refine x_aload_n (pc := 1) dX7_isOneTree_1 1 rfl rfl ?_
  refine x_iload_n (pc := 2) dX7_isOneTree_2 2 rfl rfl ?_
  refine x_iload_n (pc := 3) dX7_isOneTree_3 3 rfl rfl ?_
  obtain ⟨Q1, hc2, h⟩ := h
  refine x_callVI (pc := 4) 327 hc2 ok_X7_farOf dX7_isOneTree_4 tb_820 ⟨⟨rfl, rfl⟩, ⟨by decide, by decide⟩, by decide, by decide⟩ (mK hG (by decide)) (mc_327 hG _) rfl (As := [.ref (gA G r), .int a2, .int a3]) rfl rfl (Nat.le_of_ble_eq_true rfl) (fun r3 m4 q5 => ?_)
  have h := h r3 m4 q5
  refine x_bipush (pc := 7) (v := (-9)) dX7_isOneTree_7 (by decide) ?_
  refine x_icmp_eq (pc := 9) (tgt := 16) dX7_isOneTree_9 (by decide) (fun c6 => ?_) (fun c6 => ?_)
  · have h := h.1 c6
    refine x_iconst (pc := 16) (v := 0) dX7_isOneTree_16 (by decide) ?_
    exact x_endZ (pc := 17) dX7_isOneTree_17 rfl (Or.inl rfl) h
  · have h := h.2 c6
    refine x_iconst (pc := 12) (v := 1) dX7_isOneTree_12 (by decide) ?_
    refine x_goto (pc := 13) (tgt := 17) dX7_isOneTree_13 (by decide) ?_
    exact x_endZ (pc := 17) dX7_isOneTree_17 rfl (Or.inr rfl) h
set_option maxRecDepth 100000 in
set_option maxHeartbeats 4000000 in
theorem t_X7_eccentricityOf_0 {l : Launch} {G : Gx} {P : Int32 → Mem → Prop} (hG : Mn G) {r : Nat} (hr : Ra G r) (a2 : Int32) (mem : Mem)
    (h : ∃ Q1 : Mem → Prop, CtV l M_X7_layFar G [.ref (gA G 327), .ref (gA G r), .int a2] mem Q1 ∧ ∀ m4 : Mem, Q1 m4 → (XI l M_X7_eccentricityOf G P m4 11 [(0, .ref (gA G 327)), (3, .int 0), (4, .int 0)] [])) :
    XI l M_X7_eccentricityOf G P mem 0 [(0, .ref (gA G 327)), (1, .ref (gA G r)), (2, .int a2)] [] := by
  refine x_aload_n (pc := 0) dX7_eccentricityOf_0 0 rfl rfl ?_
  refine x_aload_n (pc := 1) dX7_eccentricityOf_1 1 rfl rfl ?_
  refine x_iload_n (pc := 2) dX7_eccentricityOf_2 2 rfl rfl ?_
  obtain ⟨Q1, hc2, h⟩ := h
  refine x_callVV (pc := 3) 327 hc2 ok_X7_layFar dX7_eccentricityOf_3 tb_824 ⟨⟨rfl, rfl⟩, ⟨by decide, by decide⟩, by decide, by decide⟩ (mK hG (by decide)) (mc_327 hG _) rfl (As := [.ref (gA G r), .int a2]) rfl rfl (Nat.le_of_ble_eq_true rfl) (fun m4 q5 => ?_)
  have h := h m4 q5
  refine x_iconst (pc := 6) (v := 0) dX7_eccentricityOf_6 (by decide) ?_
  refine x_istore_n (pc := 7) dX7_eccentricityOf_7 rfl (by decide) rfl ?_
  refine x_iconst (pc := 8) (v := 0) dX7_eccentricityOf_8 (by decide) ?_
  refine x_istore (pc := 9) dX7_eccentricityOf_9 (by decide) rfl ?_
  exact x_sub [2, 1, 0] rfl h
set_option maxRecDepth 100000 in
set_option maxHeartbeats 4000000 in
theorem t_X7_eccentricityOf_11 {l : Launch} {G : Gx} {P : Int32 → Mem → Prop} (hG : Mn G) {r : Nat} (hr : Ra G r) (a3 : Int32) (a4 : Int32) (mem : Mem)
    (h : ((mem 327 3) ≤ a4 → (P a3 mem)) ∧ (¬ (mem 327 3) ≤ a4 → (vp_in a4 12 ∧ (((mem 336 a4.toNatClampNeg) ≤ a3 → (XI l M_X7_eccentricityOf G P mem 11 [(0, .ref (gA G 327)), (3, .int a3), (4, .int (a4 + 1))] [])) ∧ (¬ (mem 336 a4.toNatClampNeg) ≤ a3 → (vp_in a4 12 ∧ (XI l M_X7_eccentricityOf G P mem 11 [(0, .ref (gA G 327)), (3, .int (mem 336 a4.toNatClampNeg)), (4, .int (a4 + 1))] []))))))) :
    XI l M_X7_eccentricityOf G P mem 11 [(0, .ref (gA G 327)), (3, .int a3), (4, .int a4)] [] := by
  refine x_iload (pc := 11) dX7_eccentricityOf_11 2 rfl ?_
  refine x_aload_n (pc := 13) dX7_eccentricityOf_13 0 rfl rfl ?_
  refine x_get (pc := 14) 327 3 dX7_eccentricityOf_14 (mK hG (by decide)) (mc_327 hG _) rfl inX7 (by decide) tb_714 rfl rfl ?_
  refine x_icmp_ge (pc := 17) (tgt := 49) dX7_eccentricityOf_17 (by decide) (fun c1 => ?_) (fun c1 => ?_)
  · have h := h.1 c1
    refine x_iload_n (pc := 49) dX7_eccentricityOf_49 1 rfl rfl ?_
    exact x_endI (pc := 50) dX7_eccentricityOf_50 rfl h
  · have h := h.2 c1
    refine x_aload_n (pc := 20) dX7_eccentricityOf_20 0 rfl rfl ?_
    refine x_get (pc := 21) 327 15 dX7_eccentricityOf_21 (mK hG (by decide)) (mc_327 hG _) rfl inX7 (by decide) tb_726 rfl rfl ?_
    refine x_iload (pc := 24) dX7_eccentricityOf_24 2 rfl ?_
    have n2 := h.1
    refine x_iald (pc := 26) 336 dX7_eccentricityOf_26 (mK hG (by decide)) (mc_336 hG _) n2 ?_
    have h := h.2
    refine x_iload_n (pc := 27) dX7_eccentricityOf_27 1 rfl rfl ?_
    refine x_icmp_le (pc := 28) (tgt := 41) dX7_eccentricityOf_28 (by decide) (fun c3 => ?_) (fun c3 => ?_)
    · have h := h.1 c3
      refine x_iload_n (pc := 41) dX7_eccentricityOf_41 1 rfl rfl ?_
      refine x_istore_n (pc := 42) dX7_eccentricityOf_42 rfl (by decide) rfl ?_
      refine x_iinc (pc := 43) (v := (a4 + 1)) dX7_eccentricityOf_43 (k := 2) rfl rfl (by decide) rfl ?_
      refine x_goto (pc := 46) (tgt := 11) dX7_eccentricityOf_46 (by decide) ?_
      exact x_sub [2, 1, 0] rfl h
    · have h := h.2 c3
      refine x_aload_n (pc := 31) dX7_eccentricityOf_31 0 rfl rfl ?_
      refine x_get (pc := 32) 327 15 dX7_eccentricityOf_32 (mK hG (by decide)) (mc_327 hG _) rfl inX7 (by decide) tb_726 rfl rfl ?_
      refine x_iload (pc := 35) dX7_eccentricityOf_35 2 rfl ?_
      have n4 := h.1
      refine x_iald (pc := 37) 336 dX7_eccentricityOf_37 (mK hG (by decide)) (mc_336 hG _) n4 ?_
      have h := h.2
      refine x_goto (pc := 38) (tgt := 42) dX7_eccentricityOf_38 (by decide) ?_
      refine x_istore_n (pc := 42) dX7_eccentricityOf_42 rfl (by decide) rfl ?_
      refine x_iinc (pc := 43) (v := (a4 + 1)) dX7_eccentricityOf_43 (k := 2) rfl rfl (by decide) rfl ?_
      refine x_goto (pc := 46) (tgt := 11) dX7_eccentricityOf_46 (by decide) ?_
      exact x_sub [2, 1, 0] rfl h
set_option maxRecDepth 100000 in
set_option maxHeartbeats 4000000 in
theorem t_X7_diameterOf_0 {l : Launch} {G : Gx} {P : Int32 → Mem → Prop} (hG : Mn G) {r : Nat} (hr : Ra G r) (a2 : Int32) (mem : Mem)
    (h : ∃ Q1 : Mem → Prop, CtV l M_X7_layFar G [.ref (gA G 327), .ref (gA G r), .int a2] mem Q1 ∧ ∀ m4 : Mem, Q1 m4 → (XI l M_X7_diameterOf G P m4 8 [(0, .ref (gA G 327)), (1, .ref (gA G r)), (3, .int 0)] [])) :
    XI l M_X7_diameterOf G P mem 0 [(0, .ref (gA G 327)), (1, .ref (gA G r)), (2, .int a2)] [] := by
  refine x_aload_n (pc := 0) dX7_diameterOf_0 0 rfl rfl ?_
  refine x_aload_n (pc := 1) dX7_diameterOf_1 1 rfl rfl ?_
  refine x_iload_n (pc := 2) dX7_diameterOf_2 2 rfl rfl ?_
  obtain ⟨Q1, hc2, h⟩ := h
  refine x_callVV (pc := 3) 327 hc2 ok_X7_layFar dX7_diameterOf_3 tb_824 ⟨⟨rfl, rfl⟩, ⟨by decide, by decide⟩, by decide, by decide⟩ (mK hG (by decide)) (mc_327 hG _) rfl (As := [.ref (gA G r), .int a2]) rfl rfl (Nat.le_of_ble_eq_true rfl) (fun m4 q5 => ?_)
  have h := h m4 q5
  refine x_iconst (pc := 6) (v := 0) dX7_diameterOf_6 (by decide) ?_
  refine x_istore_n (pc := 7) dX7_diameterOf_7 rfl (by decide) rfl ?_
  exact x_sub [1, 2, 0] rfl h
set_option maxRecDepth 100000 in
set_option maxHeartbeats 4000000 in
theorem t_X7_diameterOf_8 {l : Launch} {G : Gx} {P : Int32 → Mem → Prop} (hG : Mn G) {r : Nat} (hr : Ra G r) (a3 : Int32) (mem : Mem)
    (h : ((mem 327 3) ≤ a3 → (XI l M_X7_diameterOf G P mem 39 [(0, .ref (gA G 327)), (1, .ref (gA G r)), (3, .int 0), (4, .int 0)] [])) ∧ (¬ (mem 327 3) ≤ a3 → (vp_in a3 12 ∧ (vp_in a3 12 ∧ (XI l M_X7_diameterOf G P (wr mem 338 a3.toNatClampNeg (mem 336 a3.toNatClampNeg)) 8 [(0, .ref (gA G 327)), (1, .ref (gA G r)), (3, .int (a3 + 1))] []))))) :
    XI l M_X7_diameterOf G P mem 8 [(0, .ref (gA G 327)), (1, .ref (gA G r)), (3, .int a3)] [] := by
  refine x_iload_n (pc := 8) dX7_diameterOf_8 2 rfl rfl ?_
  refine x_aload_n (pc := 9) dX7_diameterOf_9 0 rfl rfl ?_
  refine x_get (pc := 10) 327 3 dX7_diameterOf_10 (mK hG (by decide)) (mc_327 hG _) rfl inX7 (by decide) tb_714 rfl rfl ?_
  refine x_icmp_ge (pc := 13) (tgt := 34) dX7_diameterOf_13 (by decide) (fun c1 => ?_) (fun c1 => ?_)
  · have h := h.1 c1
    refine x_iconst (pc := 34) (v := 0) dX7_diameterOf_34 (by decide) ?_
    refine x_istore_n (pc := 35) dX7_diameterOf_35 rfl (by decide) rfl ?_
    refine x_iconst (pc := 36) (v := 0) dX7_diameterOf_36 (by decide) ?_
    refine x_istore (pc := 37) dX7_diameterOf_37 (by decide) rfl ?_
    exact x_sub [2, 3, 1, 0] rfl h
  · have h := h.2 c1
    refine x_aload_n (pc := 16) dX7_diameterOf_16 0 rfl rfl ?_
    refine x_get (pc := 17) 327 17 dX7_diameterOf_17 (mK hG (by decide)) (mc_327 hG _) rfl inX7 (by decide) tb_728 rfl rfl ?_
    refine x_iload_n (pc := 20) dX7_diameterOf_20 2 rfl rfl ?_
    refine x_aload_n (pc := 21) dX7_diameterOf_21 0 rfl rfl ?_
    refine x_get (pc := 22) 327 15 dX7_diameterOf_22 (mK hG (by decide)) (mc_327 hG _) rfl inX7 (by decide) tb_726 rfl rfl ?_
    refine x_iload_n (pc := 25) dX7_diameterOf_25 2 rfl rfl ?_
    have n2 := h.1
    refine x_iald (pc := 26) 336 dX7_diameterOf_26 (mK hG (by decide)) (mc_336 hG _) n2 ?_
    have h := h.2
    have n3 := h.1
    have h := h.2
    refine x_iast (pc := 27) 338 dX7_diameterOf_27 (mK hG (by decide)) (mc_338 hG) n3 ?_
    refine x_iinc (pc := 28) (v := (a3 + 1)) dX7_diameterOf_28 (k := 2) rfl rfl (by decide) rfl ?_
    refine x_goto (pc := 31) (tgt := 8) dX7_diameterOf_31 (by decide) ?_
    exact x_sub [1, 2, 0] rfl h
set_option maxRecDepth 100000 in
set_option maxHeartbeats 4000000 in
theorem t_X7_diameterOf_39 {l : Launch} {G : Gx} {P : Int32 → Mem → Prop} (hG : Mn G) {r : Nat} (hr : Ra G r) (a3 : Int32) (a4 : Int32) (mem : Mem)
    (h : ((mem 327 3) ≤ a4 → (P a3 mem)) ∧ (¬ (mem 327 3) ≤ a4 → (vp_in a4 12 ∧ (((mem 338 a4.toNatClampNeg) = (-9) → (XI l M_X7_diameterOf G P mem 39 [(0, .ref (gA G 327)), (1, .ref (gA G r)), (3, .int a3), (4, .int (a4 + 1))] [])) ∧ (¬ (mem 338 a4.toNatClampNeg) = (-9) → (∃ Q4 : Int32 → Mem → Prop, CtI l M_X7_eccentricityOf G [.ref (gA G 327), .ref (gA G r), .int a4] mem Q4 ∧ ∀ (r6 : Int32) (m7 : Mem), Q4 r6 m7 → ((r6 ≤ a3 → (XI l M_X7_diameterOf G P m7 39 [(0, .ref (gA G 327)), (1, .ref (gA G r)), (3, .int a3), (4, .int (a4 + 1))] [])) ∧ (¬ r6 ≤ a3 → (XI l M_X7_diameterOf G P m7 39 [(0, .ref (gA G 327)), (1, .ref (gA G r)), (3, .int r6), (4, .int (a4 + 1))] []))))))))) :
    XI l M_X7_diameterOf G P mem 39 [(0, .ref (gA G 327)), (1, .ref (gA G r)), (3, .int a3), (4, .int a4)] [] := by
  refine x_iload (pc := 39) dX7_diameterOf_39 3 rfl ?_
  refine x_aload_n (pc := 41) dX7_diameterOf_41 0 rfl rfl ?_
  refine x_get (pc := 42) 327 3 dX7_diameterOf_42 (mK hG (by decide)) (mc_327 hG _) rfl inX7 (by decide) tb_714 rfl rfl ?_
  refine x_icmp_ge (pc := 45) (tgt := 88) dX7_diameterOf_45 (by decide) (fun c1 => ?_) (fun c1 => ?_)
  · have h := h.1 c1
    refine x_iload_n (pc := 88) dX7_diameterOf_88 2 rfl rfl ?_
    exact x_endI (pc := 89) dX7_diameterOf_89 rfl h
  · have h := h.2 c1
    refine x_aload_n (pc := 48) dX7_diameterOf_48 0 rfl rfl ?_
    refine x_get (pc := 49) 327 17 dX7_diameterOf_49 (mK hG (by decide)) (mc_327 hG _) rfl inX7 (by decide) tb_728 rfl rfl ?_
    refine x_iload (pc := 52) dX7_diameterOf_52 3 rfl ?_
    have n2 := h.1
    refine x_iald (pc := 54) 338 dX7_diameterOf_54 (mK hG (by decide)) (mc_338 hG _) n2 ?_
    have h := h.2
    refine x_bipush (pc := 55) (v := (-9)) dX7_diameterOf_55 (by decide) ?_
    refine x_icmp_eq (pc := 57) (tgt := 82) dX7_diameterOf_57 (by decide) (fun c3 => ?_) (fun c3 => ?_)
    · have h := h.1 c3
      refine x_iinc (pc := 82) (v := (a4 + 1)) dX7_diameterOf_82 (k := 3) rfl rfl (by decide) rfl ?_
      refine x_goto (pc := 85) (tgt := 39) dX7_diameterOf_85 (by decide) ?_
      exact x_sub [1, 2, 3, 0] rfl h
    · have h := h.2 c3
      refine x_aload_n (pc := 60) dX7_diameterOf_60 0 rfl rfl ?_
      refine x_aload_n (pc := 61) dX7_diameterOf_61 1 rfl rfl ?_
      refine x_iload (pc := 62) dX7_diameterOf_62 3 rfl ?_
      obtain ⟨Q4, hc5, h⟩ := h
      refine x_callVI (pc := 64) 327 hc5 ok_X7_eccentricityOf dX7_diameterOf_64 tb_905 ⟨⟨rfl, rfl⟩, ⟨by decide, by decide⟩, by decide, by decide⟩ (mK hG (by decide)) (mc_327 hG _) rfl (As := [.ref (gA G r), .int a4]) rfl rfl (Nat.le_of_ble_eq_true rfl) (fun r6 m7 q8 => ?_)
      have h := h r6 m7 q8
      refine x_istore (pc := 67) dX7_diameterOf_67 (by decide) rfl ?_
      refine x_iload (pc := 69) dX7_diameterOf_69 0 rfl ?_
      refine x_iload_n (pc := 71) dX7_diameterOf_71 3 rfl rfl ?_
      refine x_icmp_le (pc := 72) (tgt := 80) dX7_diameterOf_72 (by decide) (fun c9 => ?_) (fun c9 => ?_)
      · have h := h.1 c9
        refine x_iload_n (pc := 80) dX7_diameterOf_80 3 rfl rfl ?_
        refine x_istore_n (pc := 81) dX7_diameterOf_81 rfl (by decide) rfl ?_
        refine x_iinc (pc := 82) (v := (a4 + 1)) dX7_diameterOf_82 (k := 4) rfl rfl (by decide) rfl ?_
        refine x_goto (pc := 85) (tgt := 39) dX7_diameterOf_85 (by decide) ?_
        exact x_sub [3, 4, 1, 0] rfl h
      · have h := h.2 c9
        refine x_iload (pc := 75) dX7_diameterOf_75 0 rfl ?_
        refine x_goto (pc := 77) (tgt := 81) dX7_diameterOf_77 (by decide) ?_
        refine x_istore_n (pc := 81) dX7_diameterOf_81 rfl (by decide) rfl ?_
        refine x_iinc (pc := 82) (v := (a4 + 1)) dX7_diameterOf_82 (k := 4) rfl rfl (by decide) rfl ?_
        refine x_goto (pc := 85) (tgt := 39) dX7_diameterOf_85 (by decide) ?_
        exact x_sub [3, 4, 1, 0] rfl h
set_option maxRecDepth 100000 in
set_option maxHeartbeats 4000000 in
theorem t_X7_costOf_0 {l : Launch} {G : Gx} {P : Int32 → Mem → Prop} (hG : Mn G) {r : Nat} (hr : Ra G r) (a2 : Int32) (mem : Mem)
    (h : ∃ Q1 : Mem → Prop, CtV l M_X7_layFar G [.ref (gA G 327), .ref (gA G r), .int a2] mem Q1 ∧ ∀ m4 : Mem, Q1 m4 → (XI l M_X7_costOf G P m4 11 [(0, .ref (gA G 327)), (1, .ref (gA G r)), (3, .int 0), (4, .int 0)] [])) :
    XI l M_X7_costOf G P mem 0 [(0, .ref (gA G 327)), (1, .ref (gA G r)), (2, .int a2)] [] := by
  refine x_aload_n (pc := 0) dX7_costOf_0 0 rfl rfl ?_
  refine x_aload_n (pc := 1) dX7_costOf_1 1 rfl rfl ?_
  refine x_iload_n (pc := 2) dX7_costOf_2 2 rfl rfl ?_
  obtain ⟨Q1, hc2, h⟩ := h
  refine x_callVV (pc := 3) 327 hc2 ok_X7_layFar dX7_costOf_3 tb_824 ⟨⟨rfl, rfl⟩, ⟨by decide, by decide⟩, by decide, by decide⟩ (mK hG (by decide)) (mc_327 hG _) rfl (As := [.ref (gA G r), .int a2]) rfl rfl (Nat.le_of_ble_eq_true rfl) (fun m4 q5 => ?_)
  have h := h m4 q5
  refine x_iconst (pc := 6) (v := 0) dX7_costOf_6 (by decide) ?_
  refine x_istore_n (pc := 7) dX7_costOf_7 rfl (by decide) rfl ?_
  refine x_iconst (pc := 8) (v := 0) dX7_costOf_8 (by decide) ?_
  refine x_istore (pc := 9) dX7_costOf_9 (by decide) rfl ?_
  exact x_sub [2, 3, 1, 0] rfl h
set_option maxRecDepth 100000 in
set_option maxHeartbeats 4000000 in
theorem t_X7_costOf_11 {l : Launch} {G : Gx} {P : Int32 → Mem → Prop} (hG : Mn G) {r : Nat} (hr : Ra G r) (a3 : Int32) (a4 : Int32) (mem : Mem)
    (h : ((mem 327 3) ≤ a4 → (P a3 mem)) ∧ (¬ (mem 327 3) ≤ a4 → (vp_in a4 12 ∧ ((¬ (mem 336 a4.toNatClampNeg) = (-9) → (vp_in a4 156 ∧ (vp_in a4 12 ∧ (XI l M_X7_costOf G P mem 11 [(0, .ref (gA G 327)), (1, .ref (gA G r)), (3, .int (a3 + ((mem r a4.toNatClampNeg) * (mem 336 a4.toNatClampNeg)))), (4, .int (a4 + 1))] [])))) ∧ ((mem 336 a4.toNatClampNeg) = (-9) → (XI l M_X7_costOf G P mem 11 [(0, .ref (gA G 327)), (1, .ref (gA G r)), (3, .int (a3 + 0)), (4, .int (a4 + 1))] [])))))) :
    XI l M_X7_costOf G P mem 11 [(0, .ref (gA G 327)), (1, .ref (gA G r)), (3, .int a3), (4, .int a4)] [] := by
  refine x_iload (pc := 11) dX7_costOf_11 3 rfl ?_
  refine x_aload_n (pc := 13) dX7_costOf_13 0 rfl rfl ?_
  refine x_get (pc := 14) 327 3 dX7_costOf_14 (mK hG (by decide)) (mc_327 hG _) rfl inX7 (by decide) tb_714 rfl rfl ?_
  refine x_icmp_ge (pc := 17) (tgt := 57) dX7_costOf_17 (by decide) (fun c1 => ?_) (fun c1 => ?_)
  · have h := h.1 c1
    refine x_iload_n (pc := 57) dX7_costOf_57 2 rfl rfl ?_
    exact x_endI (pc := 58) dX7_costOf_58 rfl h
  · have h := h.2 c1
    refine x_iload_n (pc := 20) dX7_costOf_20 2 rfl rfl ?_
    refine x_aload_n (pc := 21) dX7_costOf_21 0 rfl rfl ?_
    refine x_get (pc := 22) 327 15 dX7_costOf_22 (mK hG (by decide)) (mc_327 hG _) rfl inX7 (by decide) tb_726 rfl rfl ?_
    refine x_iload (pc := 25) dX7_costOf_25 3 rfl ?_
    have n2 := h.1
    refine x_iald (pc := 27) 336 dX7_costOf_27 (mK hG (by decide)) (mc_336 hG _) n2 ?_
    have h := h.2
    refine x_bipush (pc := 28) (v := (-9)) dX7_costOf_28 (by decide) ?_
    refine x_icmp_ne (pc := 30) (tgt := 37) dX7_costOf_30 (by decide) (fun c3 => ?_) (fun c3 => ?_)
    · have h := h.1 c3
      refine x_aload_n (pc := 37) dX7_costOf_37 1 rfl rfl ?_
      refine x_iload (pc := 38) dX7_costOf_38 3 rfl ?_
      have n4 := h.1
      refine x_iald (pc := 40) r dX7_costOf_40 (Ra_K hr) (Ra_c hr _) n4 ?_
      have h := h.2
      refine x_aload_n (pc := 41) dX7_costOf_41 0 rfl rfl ?_
      refine x_get (pc := 42) 327 15 dX7_costOf_42 (mK hG (by decide)) (mc_327 hG _) rfl inX7 (by decide) tb_726 rfl rfl ?_
      refine x_iload (pc := 45) dX7_costOf_45 3 rfl ?_
      have n5 := h.1
      refine x_iald (pc := 47) 336 dX7_costOf_47 (mK hG (by decide)) (mc_336 hG _) n5 ?_
      have h := h.2
      refine x_imul (pc := 48) dX7_costOf_48 ?_
      refine x_iadd (pc := 49) dX7_costOf_49 ?_
      refine x_istore_n (pc := 50) dX7_costOf_50 rfl (by decide) rfl ?_
      refine x_iinc (pc := 51) (v := (a4 + 1)) dX7_costOf_51 (k := 3) rfl rfl (by decide) rfl ?_
      refine x_goto (pc := 54) (tgt := 11) dX7_costOf_54 (by decide) ?_
      exact x_sub [2, 3, 1, 0] rfl h
    · have h := h.2 c3
      refine x_iconst (pc := 33) (v := 0) dX7_costOf_33 (by decide) ?_
      refine x_goto (pc := 34) (tgt := 49) dX7_costOf_34 (by decide) ?_
      refine x_iadd (pc := 49) dX7_costOf_49 ?_
      refine x_istore_n (pc := 50) dX7_costOf_50 rfl (by decide) rfl ?_
      refine x_iinc (pc := 51) (v := (a4 + 1)) dX7_costOf_51 (k := 3) rfl rfl (by decide) rfl ?_
      refine x_goto (pc := 54) (tgt := 11) dX7_costOf_54 (by decide) ?_
      exact x_sub [2, 3, 1, 0] rfl h
set_option maxRecDepth 100000 in
set_option maxHeartbeats 4000000 in
theorem t_X7_leastOf_0 {l : Launch} {G : Gx} {P : Int32 → Mem → Prop} (hG : Mn G) {r : Nat} (hr : Ra G r) (a2 : Int32) (a3 : Int32) (mem : Mem)
    (h : ∃ Q1 : Mem → Prop, CtV l M_X7_layFar G [.ref (gA G 327), .ref (gA G r), .int a2] mem Q1 ∧ ∀ m4 : Mem, Q1 m4 → (XI l M_X7_leastOf G P m4 9 [(0, .ref (gA G 327)), (1, .ref (gA G r)), (3, .int a3), (4, .int 0)] [])) :
    XI l M_X7_leastOf G P mem 0 [(0, .ref (gA G 327)), (1, .ref (gA G r)), (2, .int a2), (3, .int a3)] [] := by
  refine x_aload_n (pc := 0) dX7_leastOf_0 0 rfl rfl ?_
  refine x_aload_n (pc := 1) dX7_leastOf_1 1 rfl rfl ?_
  refine x_iload_n (pc := 2) dX7_leastOf_2 2 rfl rfl ?_
  obtain ⟨Q1, hc2, h⟩ := h
  refine x_callVV (pc := 3) 327 hc2 ok_X7_layFar dX7_leastOf_3 tb_824 ⟨⟨rfl, rfl⟩, ⟨by decide, by decide⟩, by decide, by decide⟩ (mK hG (by decide)) (mc_327 hG _) rfl (As := [.ref (gA G r), .int a2]) rfl rfl (Nat.le_of_ble_eq_true rfl) (fun m4 q5 => ?_)
  have h := h m4 q5
  refine x_iconst (pc := 6) (v := 0) dX7_leastOf_6 (by decide) ?_
  refine x_istore (pc := 7) dX7_leastOf_7 (by decide) rfl ?_
  exact x_sub [1, 2, 4, 0] rfl h
set_option maxRecDepth 100000 in
set_option maxHeartbeats 4000000 in
theorem t_X7_leastOf_9 {l : Launch} {G : Gx} {P : Int32 → Mem → Prop} (hG : Mn G) {r : Nat} (hr : Ra G r) (a3 : Int32) (a4 : Int32) (mem : Mem)
    (h : ((mem 327 3) ≤ a4 → (XI l M_X7_leastOf G P mem 48 [(0, .ref (gA G 327)), (1, .ref (gA G r)), (3, .int a3), (4, .int (-9)), (5, .int 0), (6, .int 0)] [])) ∧ (¬ (mem 327 3) ≤ a4 → (vp_in a4 12 ∧ (vp_in a4 12 ∧ (XI l M_X7_leastOf G P (wr mem 338 a4.toNatClampNeg (mem 336 a4.toNatClampNeg)) 9 [(0, .ref (gA G 327)), (1, .ref (gA G r)), (3, .int a3), (4, .int (a4 + 1))] []))))) :
    XI l M_X7_leastOf G P mem 9 [(0, .ref (gA G 327)), (1, .ref (gA G r)), (3, .int a3), (4, .int a4)] [] := by
  refine x_iload (pc := 9) dX7_leastOf_9 3 rfl ?_
  refine x_aload_n (pc := 11) dX7_leastOf_11 0 rfl rfl ?_
  refine x_get (pc := 12) 327 3 dX7_leastOf_12 (mK hG (by decide)) (mc_327 hG _) rfl inX7 (by decide) tb_714 rfl rfl ?_
  refine x_icmp_ge (pc := 15) (tgt := 38) dX7_leastOf_15 (by decide) (fun c1 => ?_) (fun c1 => ?_)
  · have h := h.1 c1
    refine x_bipush (pc := 38) (v := (-9)) dX7_leastOf_38 (by decide) ?_
    refine x_istore (pc := 40) dX7_leastOf_40 (by decide) rfl ?_
    refine x_iconst (pc := 42) (v := 0) dX7_leastOf_42 (by decide) ?_
    refine x_istore (pc := 43) dX7_leastOf_43 (by decide) rfl ?_
    refine x_iconst (pc := 45) (v := 0) dX7_leastOf_45 (by decide) ?_
    refine x_istore (pc := 46) dX7_leastOf_46 (by decide) rfl ?_
    exact x_sub [3, 4, 5, 2, 1, 0] rfl h
  · have h := h.2 c1
    refine x_aload_n (pc := 18) dX7_leastOf_18 0 rfl rfl ?_
    refine x_get (pc := 19) 327 17 dX7_leastOf_19 (mK hG (by decide)) (mc_327 hG _) rfl inX7 (by decide) tb_728 rfl rfl ?_
    refine x_iload (pc := 22) dX7_leastOf_22 3 rfl ?_
    refine x_aload_n (pc := 24) dX7_leastOf_24 0 rfl rfl ?_
    refine x_get (pc := 25) 327 15 dX7_leastOf_25 (mK hG (by decide)) (mc_327 hG _) rfl inX7 (by decide) tb_726 rfl rfl ?_
    refine x_iload (pc := 28) dX7_leastOf_28 3 rfl ?_
    have n2 := h.1
    refine x_iald (pc := 30) 336 dX7_leastOf_30 (mK hG (by decide)) (mc_336 hG _) n2 ?_
    have h := h.2
    have n3 := h.1
    have h := h.2
    refine x_iast (pc := 31) 338 dX7_leastOf_31 (mK hG (by decide)) (mc_338 hG) n3 ?_
    refine x_iinc (pc := 32) (v := (a4 + 1)) dX7_leastOf_32 (k := 3) rfl rfl (by decide) rfl ?_
    refine x_goto (pc := 35) (tgt := 9) dX7_leastOf_35 (by decide) ?_
    exact x_sub [1, 2, 3, 0] rfl h
set_option maxRecDepth 100000 in
set_option maxHeartbeats 4000000 in
theorem t_X7_leastOf_48 {l : Launch} {G : Gx} {P : Int32 → Mem → Prop} (hG : Mn G) {r : Nat} (hr : Ra G r) (a3 : Int32) (a4 : Int32) (a5 : Int32) (a6 : Int32) (mem : Mem)
    (h : ((mem 327 3) ≤ a6 → (P a4 mem)) ∧ (¬ (mem 327 3) ≤ a6 → (vp_in a6 12 ∧ (((mem 338 a6.toNatClampNeg) = (-9) → (XI l M_X7_leastOf G P mem 48 [(0, .ref (gA G 327)), (1, .ref (gA G r)), (3, .int a3), (4, .int a4), (5, .int a5), (6, .int (a6 + 1))] [])) ∧ (¬ (mem 338 a6.toNatClampNeg) = (-9) → ((a3 = 0 → (∃ Q5 : Int32 → Mem → Prop, CtI l M_X7_eccentricityOf G [.ref (gA G 327), .ref (gA G r), .int a6] mem Q5 ∧ ∀ (r7 : Int32) (m8 : Mem), Q5 r7 m8 → ((a4 = (-9) → (XI l M_X7_leastOf G P m8 48 [(0, .ref (gA G 327)), (1, .ref (gA G r)), (3, .int a3), (4, .int a6), (5, .int r7), (6, .int (a6 + 1))] [])) ∧ (¬ a4 = (-9) → ((a5 ≤ r7 → (XI l M_X7_leastOf G P m8 48 [(0, .ref (gA G 327)), (1, .ref (gA G r)), (3, .int a3), (4, .int a4), (5, .int a5), (6, .int (a6 + 1))] [])) ∧ (¬ a5 ≤ r7 → (XI l M_X7_leastOf G P m8 48 [(0, .ref (gA G 327)), (1, .ref (gA G r)), (3, .int a3), (4, .int a6), (5, .int r7), (6, .int (a6 + 1))] []))))))) ∧ (¬ a3 = 0 → (∃ Q12 : Int32 → Mem → Prop, CtI l M_X7_costOf G [.ref (gA G 327), .ref (gA G r), .int a6] mem Q12 ∧ ∀ (r14 : Int32) (m15 : Mem), Q12 r14 m15 → ((a4 = (-9) → (XI l M_X7_leastOf G P m15 48 [(0, .ref (gA G 327)), (1, .ref (gA G r)), (3, .int a3), (4, .int a6), (5, .int r14), (6, .int (a6 + 1))] [])) ∧ (¬ a4 = (-9) → ((a5 ≤ r14 → (XI l M_X7_leastOf G P m15 48 [(0, .ref (gA G 327)), (1, .ref (gA G r)), (3, .int a3), (4, .int a4), (5, .int a5), (6, .int (a6 + 1))] [])) ∧ (¬ a5 ≤ r14 → (XI l M_X7_leastOf G P m15 48 [(0, .ref (gA G 327)), (1, .ref (gA G r)), (3, .int a3), (4, .int a6), (5, .int r14), (6, .int (a6 + 1))] []))))))))))))) :
    XI l M_X7_leastOf G P mem 48 [(0, .ref (gA G 327)), (1, .ref (gA G r)), (3, .int a3), (4, .int a4), (5, .int a5), (6, .int a6)] [] := by
  refine x_iload (pc := 48) dX7_leastOf_48 5 rfl ?_
  refine x_aload_n (pc := 50) dX7_leastOf_50 0 rfl rfl ?_
  refine x_get (pc := 51) 327 3 dX7_leastOf_51 (mK hG (by decide)) (mc_327 hG _) rfl inX7 (by decide) tb_714 rfl rfl ?_
  refine x_icmp_ge (pc := 54) (tgt := 120) dX7_leastOf_54 (by decide) (fun c1 => ?_) (fun c1 => ?_)
  · have h := h.1 c1
    refine x_iload (pc := 120) dX7_leastOf_120 3 rfl ?_
    exact x_endI (pc := 122) dX7_leastOf_122 rfl h
  · have h := h.2 c1
    refine x_aload_n (pc := 57) dX7_leastOf_57 0 rfl rfl ?_
    refine x_get (pc := 58) 327 17 dX7_leastOf_58 (mK hG (by decide)) (mc_327 hG _) rfl inX7 (by decide) tb_728 rfl rfl ?_
    refine x_iload (pc := 61) dX7_leastOf_61 5 rfl ?_
    have n2 := h.1
    refine x_iald (pc := 63) 338 dX7_leastOf_63 (mK hG (by decide)) (mc_338 hG _) n2 ?_
    have h := h.2
    refine x_bipush (pc := 64) (v := (-9)) dX7_leastOf_64 (by decide) ?_
    refine x_icmp_eq (pc := 66) (tgt := 114) dX7_leastOf_66 (by decide) (fun c3 => ?_) (fun c3 => ?_)
    · have h := h.1 c3
      refine x_iinc (pc := 114) (v := (a6 + 1)) dX7_leastOf_114 (k := 5) rfl rfl (by decide) rfl ?_
      refine x_goto (pc := 117) (tgt := 48) dX7_leastOf_117 (by decide) ?_
      exact x_sub [1, 2, 3, 4, 5, 0] rfl h
    · have h := h.2 c3
      refine x_iload_n (pc := 69) dX7_leastOf_69 2 rfl rfl ?_
      refine x_if_eq (pc := 70) (tgt := 83) dX7_leastOf_70 (by decide) (fun c4 => ?_) (fun c4 => ?_)
      · have h := h.1 c4
        refine x_aload_n (pc := 83) dX7_leastOf_83 0 rfl rfl ?_
        refine x_aload_n (pc := 84) dX7_leastOf_84 1 rfl rfl ?_
        refine x_iload (pc := 85) dX7_leastOf_85 5 rfl ?_
        obtain ⟨Q5, hc6, h⟩ := h
        refine x_callVI (pc := 87) 327 hc6 ok_X7_eccentricityOf dX7_leastOf_87 tb_905 ⟨⟨rfl, rfl⟩, ⟨by decide, by decide⟩, by decide, by decide⟩ (mK hG (by decide)) (mc_327 hG _) rfl (As := [.ref (gA G r), .int a6]) rfl rfl (Nat.le_of_ble_eq_true rfl) (fun r7 m8 q9 => ?_)
        have h := h r7 m8 q9
        refine x_istore (pc := 90) dX7_leastOf_90 (by decide) rfl ?_
        refine x_iload (pc := 92) dX7_leastOf_92 4 rfl ?_
        refine x_bipush (pc := 94) (v := (-9)) dX7_leastOf_94 (by decide) ?_
        refine x_icmp_eq (pc := 96) (tgt := 106) dX7_leastOf_96 (by decide) (fun c10 => ?_) (fun c10 => ?_)
        · have h := h.1 c10
          refine x_iload (pc := 106) dX7_leastOf_106 6 rfl ?_
          refine x_istore (pc := 108) dX7_leastOf_108 (by decide) rfl ?_
          refine x_iload (pc := 110) dX7_leastOf_110 1 rfl ?_
          refine x_istore (pc := 112) dX7_leastOf_112 (by decide) rfl ?_
          refine x_iinc (pc := 114) (v := (a6 + 1)) dX7_leastOf_114 (k := 6) rfl rfl (by decide) rfl ?_
          refine x_goto (pc := 117) (tgt := 48) dX7_leastOf_117 (by decide) ?_
          exact x_sub [4, 5, 6, 2, 1, 0] rfl h
        · have h := h.2 c10
          refine x_iload (pc := 99) dX7_leastOf_99 0 rfl ?_
          refine x_iload (pc := 101) dX7_leastOf_101 5 rfl ?_
          refine x_icmp_ge (pc := 103) (tgt := 114) dX7_leastOf_103 (by decide) (fun c11 => ?_) (fun c11 => ?_)
          · have h := h.1 c11
            refine x_iinc (pc := 114) (v := (a6 + 1)) dX7_leastOf_114 (k := 6) rfl rfl (by decide) rfl ?_
            refine x_goto (pc := 117) (tgt := 48) dX7_leastOf_117 (by decide) ?_
            exact x_sub [2, 3, 4, 5, 6, 0] rfl h
          · have h := h.2 c11
            refine x_iload (pc := 106) dX7_leastOf_106 6 rfl ?_
            refine x_istore (pc := 108) dX7_leastOf_108 (by decide) rfl ?_
            refine x_iload (pc := 110) dX7_leastOf_110 1 rfl ?_
            refine x_istore (pc := 112) dX7_leastOf_112 (by decide) rfl ?_
            refine x_iinc (pc := 114) (v := (a6 + 1)) dX7_leastOf_114 (k := 6) rfl rfl (by decide) rfl ?_
            refine x_goto (pc := 117) (tgt := 48) dX7_leastOf_117 (by decide) ?_
            exact x_sub [4, 5, 6, 2, 1, 0] rfl h
      · have h := h.2 c4
        refine x_aload_n (pc := 73) dX7_leastOf_73 0 rfl rfl ?_
        refine x_aload_n (pc := 74) dX7_leastOf_74 1 rfl rfl ?_
        refine x_iload (pc := 75) dX7_leastOf_75 5 rfl ?_
        obtain ⟨Q12, hc13, h⟩ := h
        refine x_callVI (pc := 77) 327 hc13 ok_X7_costOf dX7_leastOf_77 tb_929 ⟨⟨rfl, rfl⟩, ⟨by decide, by decide⟩, by decide, by decide⟩ (mK hG (by decide)) (mc_327 hG _) rfl (As := [.ref (gA G r), .int a6]) rfl rfl (Nat.le_of_ble_eq_true rfl) (fun r14 m15 q16 => ?_)
        have h := h r14 m15 q16
        refine x_goto (pc := 80) (tgt := 90) dX7_leastOf_80 (by decide) ?_
        refine x_istore (pc := 90) dX7_leastOf_90 (by decide) rfl ?_
        refine x_iload (pc := 92) dX7_leastOf_92 4 rfl ?_
        refine x_bipush (pc := 94) (v := (-9)) dX7_leastOf_94 (by decide) ?_
        refine x_icmp_eq (pc := 96) (tgt := 106) dX7_leastOf_96 (by decide) (fun c17 => ?_) (fun c17 => ?_)
        · have h := h.1 c17
          refine x_iload (pc := 106) dX7_leastOf_106 6 rfl ?_
          refine x_istore (pc := 108) dX7_leastOf_108 (by decide) rfl ?_
          refine x_iload (pc := 110) dX7_leastOf_110 1 rfl ?_
          refine x_istore (pc := 112) dX7_leastOf_112 (by decide) rfl ?_
          refine x_iinc (pc := 114) (v := (a6 + 1)) dX7_leastOf_114 (k := 6) rfl rfl (by decide) rfl ?_
          refine x_goto (pc := 117) (tgt := 48) dX7_leastOf_117 (by decide) ?_
          exact x_sub [4, 5, 6, 2, 1, 0] rfl h
        · have h := h.2 c17
          refine x_iload (pc := 99) dX7_leastOf_99 0 rfl ?_
          refine x_iload (pc := 101) dX7_leastOf_101 5 rfl ?_
          refine x_icmp_ge (pc := 103) (tgt := 114) dX7_leastOf_103 (by decide) (fun c18 => ?_) (fun c18 => ?_)
          · have h := h.1 c18
            refine x_iinc (pc := 114) (v := (a6 + 1)) dX7_leastOf_114 (k := 6) rfl rfl (by decide) rfl ?_
            refine x_goto (pc := 117) (tgt := 48) dX7_leastOf_117 (by decide) ?_
            exact x_sub [2, 3, 4, 5, 6, 0] rfl h
          · have h := h.2 c18
            refine x_iload (pc := 106) dX7_leastOf_106 6 rfl ?_
            refine x_istore (pc := 108) dX7_leastOf_108 (by decide) rfl ?_
            refine x_iload (pc := 110) dX7_leastOf_110 1 rfl ?_
            refine x_istore (pc := 112) dX7_leastOf_112 (by decide) rfl ?_
            refine x_iinc (pc := 114) (v := (a6 + 1)) dX7_leastOf_114 (k := 6) rfl rfl (by decide) rfl ?_
            refine x_goto (pc := 117) (tgt := 48) dX7_leastOf_117 (by decide) ?_
            exact x_sub [4, 5, 6, 2, 1, 0] rfl h
set_option maxRecDepth 100000 in
set_option maxHeartbeats 4000000 in
theorem t_X7_append_0 {l : Launch} {G : Gx} {P : Int32 → Mem → Prop} (hG : Mn G) (a1 : Int32) (mem : Mem)
    (h : ∃ Q1 : Int32 → Mem → Prop, CtI l M_X7_in G [.long ((a1 : Int32).toInt64), .long 0, .long 255] mem Q1 ∧ ∀ (r3 : Int32) (m4 : Mem), Q1 r3 m4 → ((¬ r3 = 0 → ((¬ (m4 327 1) = 80 → (vp_in (m4 327 1) 80 ∧ (P ((wr (wr m4 328 ((m4 327 1).toNatClampNeg) a1) 327 1 (((wr m4 328 ((m4 327 1).toNatClampNeg) a1) 327 1) + 1)) 327 1) (wr (wr m4 328 ((m4 327 1).toNatClampNeg) a1) 327 1 (((wr m4 328 ((m4 327 1).toNatClampNeg) a1) 327 1) + 1))))) ∧ ((m4 327 1) = 80 → (P (-4) m4)))) ∧ (r3 = 0 → (P (-2) m4)))) :
    XI l M_X7_append G P mem 0 [(0, .ref (gA G 327)), (1, .int a1)] [] := by
  refine x_iload_n (pc := 0) dX7_append_0 1 rfl rfl ?_
  refine x_i2l (pc := 1) dX7_append_1 ?_
  refine x_lconst (pc := 2) (v := 0) dX7_append_2 rfl ?_
  refine x_ldc2 (pc := 3) (v := 255) dX7_append_3 tb_788 ?_
  obtain ⟨Q1, hc2, h⟩ := h
  refine x_callSI (pc := 6) hc2 ok_X7_in dX7_append_6 tb_789 ⟨⟨rfl, rfl⟩, ⟨by decide, by decide⟩, by decide, by decide⟩ rfl rfl (Nat.le_of_ble_eq_true rfl) (fun r3 m4 q5 => ?_)
  have h := h r3 m4 q5
  refine x_if_ne (pc := 9) (tgt := 15) dX7_append_9 (by decide) (fun c6 => ?_) (fun c6 => ?_)
  · have h := h.1 c6
    refine x_aload_n (pc := 15) dX7_append_15 0 rfl rfl ?_
    refine x_get (pc := 16) 327 1 dX7_append_16 (mK hG (by decide)) (mc_327 hG _) rfl inX7 (by decide) tb_712 rfl rfl ?_
    refine x_bipush (pc := 19) (v := 80) dX7_append_19 (by decide) ?_
    refine x_icmp_ne (pc := 21) (tgt := 27) dX7_append_21 (by decide) (fun c7 => ?_) (fun c7 => ?_)
    · have h := h.1 c7
      refine x_aload_n (pc := 27) dX7_append_27 0 rfl rfl ?_
      refine x_get (pc := 28) 327 0 dX7_append_28 (mK hG (by decide)) (mc_327 hG _) rfl inX7 (by decide) tb_711 rfl rfl ?_
      refine x_aload_n (pc := 31) dX7_append_31 0 rfl rfl ?_
      refine x_get (pc := 32) 327 1 dX7_append_32 (mK hG (by decide)) (mc_327 hG _) rfl inX7 (by decide) tb_712 rfl rfl ?_
      refine x_iload_n (pc := 35) dX7_append_35 1 rfl rfl ?_
      have n8 := h.1
      have h := h.2
      refine x_iast (pc := 36) 328 dX7_append_36 (mK hG (by decide)) (mc_328 hG) n8 ?_
      refine x_aload_n (pc := 37) dX7_append_37 0 rfl rfl ?_
      refine x_dup (pc := 38) dX7_append_38 rfl ?_
      refine x_get (pc := 39) 327 1 dX7_append_39 (mK hG (by decide)) (mc_327 hG _) rfl inX7 (by decide) tb_712 rfl rfl ?_
      refine x_iconst (pc := 42) (v := 1) dX7_append_42 (by decide) ?_
      refine x_iadd (pc := 43) dX7_append_43 ?_
      refine x_put (pc := 44) 327 1 dX7_append_44 (mK hG (by decide)) (mc_327 hG) rfl inX7 tyX7 tyX7_ok nmX7 (by decide) tb_712 rfl rfl (by decide +kernel) (fun _ => Nat.le_of_ble_eq_true rfl) (fun _ _ => rfl) ?_
      refine x_aload_n (pc := 47) dX7_append_47 0 rfl rfl ?_
      refine x_get (pc := 48) 327 1 dX7_append_48 (mK hG (by decide)) (mc_327 hG _) rfl inX7 (by decide) tb_712 rfl rfl ?_
      exact x_endI (pc := 51) dX7_append_51 rfl h
    · have h := h.2 c7
      refine x_bipush (pc := 24) (v := (-4)) dX7_append_24 (by decide) ?_
      exact x_endI (pc := 26) dX7_append_26 rfl h
  · have h := h.2 c6
    refine x_bipush (pc := 12) (v := (-2)) dX7_append_12 (by decide) ?_
    exact x_endI (pc := 14) dX7_append_14 rfl h
set_option maxRecDepth 100000 in
set_option maxHeartbeats 4000000 in
theorem t_X7_clearText_0 {l : Launch} {G : Gx} {P : Int32 → Mem → Prop} (hG : Mn G)  (mem : Mem)
    (h : P (mem 327 1) (wr mem 327 1 0)) :
    XI l M_X7_clearText G P mem 0 [(0, .ref (gA G 327))] [] := by
  refine x_aload_n (pc := 0) dX7_clearText_0 0 rfl rfl ?_
  refine x_get (pc := 1) 327 1 dX7_clearText_1 (mK hG (by decide)) (mc_327 hG _) rfl inX7 (by decide) tb_712 rfl rfl ?_
  refine x_istore_n (pc := 4) dX7_clearText_4 rfl (by decide) rfl ?_
  refine x_aload_n (pc := 5) dX7_clearText_5 1 rfl rfl ?_
  refine x_iconst (pc := 6) (v := 0) dX7_clearText_6 (by decide) ?_
  refine x_put (pc := 7) 327 1 dX7_clearText_7 (mK hG (by decide)) (mc_327 hG) rfl inX7 tyX7 tyX7_ok nmX7 (by decide) tb_712 rfl rfl (by decide +kernel) (fun _ => Nat.le_of_ble_eq_true rfl) (fun _ _ => rfl) ?_
  refine x_iload_n (pc := 10) dX7_clearText_10 0 rfl rfl ?_
  exact x_endI (pc := 11) dX7_clearText_11 rfl h
set_option maxRecDepth 100000 in
set_option maxHeartbeats 4000000 in
theorem t_X7_sign_0 {l : Launch} {G : Gx} {P : Int32 → Mem → Prop} (hG : Mn G) (a1 : Int32) (a2 : Int32) (a3 : Int32) (mem : Mem)
    (h : ((mem 327 1) ≤ (mem 327 2) → (∃ Q2 : Int32 → Mem → Prop, CtI l M_X7_in G [.long (((-9) : Int32).toInt64), .long ((a2 : Int32).toInt64), .long ((a3 : Int32).toInt64)] mem Q2 ∧ ∀ (r4 : Int32) (m5 : Mem), Q2 r4 m5 → ((¬ r4 = 0 → (P (-9) (wr m5 327 2 ((m5 327 2) + 1)))) ∧ (r4 = 0 → (P (-9) m5))))) ∧ (¬ (mem 327 1) ≤ (mem 327 2) → (vp_in (mem 327 2) 80 ∧ (∃ Q9 : Int32 → Mem → Prop, CtI l M_X7_in G [.long ((((mem 328 (mem 327 2).toNatClampNeg) - a1) : Int32).toInt64), .long ((a2 : Int32).toInt64), .long ((a3 : Int32).toInt64)] mem Q9 ∧ ∀ (r11 : Int32) (m12 : Mem), Q9 r11 m12 → ((¬ r11 = 0 → (P ((mem 328 (mem 327 2).toNatClampNeg) - a1) (wr m12 327 2 ((m12 327 2) + 1)))) ∧ (r11 = 0 → (P (-9) m12))))))) :
    XI l M_X7_sign G P mem 0 [(0, .ref (gA G 327)), (1, .int a1), (2, .int a2), (3, .int a3)] [] := by
  refine x_aload_n (pc := 0) dX7_sign_0 0 rfl rfl ?_
  refine x_get (pc := 1) 327 2 dX7_sign_1 (mK hG (by decide)) (mc_327 hG _) rfl inX7 (by decide) tb_713 rfl rfl ?_
  refine x_aload_n (pc := 4) dX7_sign_4 0 rfl rfl ?_
  refine x_get (pc := 5) 327 1 dX7_sign_5 (mK hG (by decide)) (mc_327 hG _) rfl inX7 (by decide) tb_712 rfl rfl ?_
  refine x_icmp_ge (pc := 8) (tgt := 25) dX7_sign_8 (by decide) (fun c1 => ?_) (fun c1 => ?_)
  · have h := h.1 c1
    refine x_bipush (pc := 25) (v := (-9)) dX7_sign_25 (by decide) ?_
    refine x_istore (pc := 27) dX7_sign_27 (by decide) rfl ?_
    refine x_iload (pc := 29) dX7_sign_29 0 rfl ?_
    refine x_i2l (pc := 31) dX7_sign_31 ?_
    refine x_iload_n (pc := 32) dX7_sign_32 3 rfl rfl ?_
    refine x_i2l (pc := 33) dX7_sign_33 ?_
    refine x_iload_n (pc := 34) dX7_sign_34 4 rfl rfl ?_
    refine x_i2l (pc := 35) dX7_sign_35 ?_
    obtain ⟨Q2, hc3, h⟩ := h
    refine x_callSI (pc := 36) hc3 ok_X7_in dX7_sign_36 tb_789 ⟨⟨rfl, rfl⟩, ⟨by decide, by decide⟩, by decide, by decide⟩ rfl rfl (Nat.le_of_ble_eq_true rfl) (fun r4 m5 q6 => ?_)
    have h := h r4 m5 q6
    refine x_if_ne (pc := 39) (tgt := 45) dX7_sign_39 (by decide) (fun c7 => ?_) (fun c7 => ?_)
    · have h := h.1 c7
      refine x_aload_n (pc := 45) dX7_sign_45 1 rfl rfl ?_
      refine x_dup (pc := 46) dX7_sign_46 rfl ?_
      refine x_get (pc := 47) 327 2 dX7_sign_47 (mK hG (by decide)) (mc_327 hG _) rfl inX7 (by decide) tb_713 rfl rfl ?_
      refine x_iconst (pc := 50) (v := 1) dX7_sign_50 (by decide) ?_
      refine x_iadd (pc := 51) dX7_sign_51 ?_
      refine x_put (pc := 52) 327 2 dX7_sign_52 (mK hG (by decide)) (mc_327 hG) rfl inX7 tyX7 tyX7_ok nmX7 (by decide) tb_713 rfl rfl (by decide +kernel) (fun _ => Nat.le_of_ble_eq_true rfl) (fun _ _ => rfl) ?_
      refine x_iload (pc := 55) dX7_sign_55 0 rfl ?_
      exact x_endI (pc := 57) dX7_sign_57 rfl h
    · have h := h.2 c7
      refine x_bipush (pc := 42) (v := (-9)) dX7_sign_42 (by decide) ?_
      exact x_endI (pc := 44) dX7_sign_44 rfl h
  · have h := h.2 c1
    refine x_aload_n (pc := 11) dX7_sign_11 0 rfl rfl ?_
    refine x_get (pc := 12) 327 0 dX7_sign_12 (mK hG (by decide)) (mc_327 hG _) rfl inX7 (by decide) tb_711 rfl rfl ?_
    refine x_aload_n (pc := 15) dX7_sign_15 0 rfl rfl ?_
    refine x_get (pc := 16) 327 2 dX7_sign_16 (mK hG (by decide)) (mc_327 hG _) rfl inX7 (by decide) tb_713 rfl rfl ?_
    have n8 := h.1
    refine x_iald (pc := 19) 328 dX7_sign_19 (mK hG (by decide)) (mc_328 hG _) n8 ?_
    have h := h.2
    refine x_iload_n (pc := 20) dX7_sign_20 1 rfl rfl ?_
    refine x_isub (pc := 21) dX7_sign_21 ?_
    refine x_goto (pc := 22) (tgt := 27) dX7_sign_22 (by decide) ?_
    refine x_istore (pc := 27) dX7_sign_27 (by decide) rfl ?_
    refine x_iload (pc := 29) dX7_sign_29 0 rfl ?_
    refine x_i2l (pc := 31) dX7_sign_31 ?_
    refine x_iload_n (pc := 32) dX7_sign_32 3 rfl rfl ?_
    refine x_i2l (pc := 33) dX7_sign_33 ?_
    refine x_iload_n (pc := 34) dX7_sign_34 4 rfl rfl ?_
    refine x_i2l (pc := 35) dX7_sign_35 ?_
    obtain ⟨Q9, hc10, h⟩ := h
    refine x_callSI (pc := 36) hc10 ok_X7_in dX7_sign_36 tb_789 ⟨⟨rfl, rfl⟩, ⟨by decide, by decide⟩, by decide, by decide⟩ rfl rfl (Nat.le_of_ble_eq_true rfl) (fun r11 m12 q13 => ?_)
    have h := h r11 m12 q13
    refine x_if_ne (pc := 39) (tgt := 45) dX7_sign_39 (by decide) (fun c14 => ?_) (fun c14 => ?_)
    · have h := h.1 c14
      refine x_aload_n (pc := 45) dX7_sign_45 1 rfl rfl ?_
      refine x_dup (pc := 46) dX7_sign_46 rfl ?_
      refine x_get (pc := 47) 327 2 dX7_sign_47 (mK hG (by decide)) (mc_327 hG _) rfl inX7 (by decide) tb_713 rfl rfl ?_
      refine x_iconst (pc := 50) (v := 1) dX7_sign_50 (by decide) ?_
      refine x_iadd (pc := 51) dX7_sign_51 ?_
      refine x_put (pc := 52) 327 2 dX7_sign_52 (mK hG (by decide)) (mc_327 hG) rfl inX7 tyX7 tyX7_ok nmX7 (by decide) tb_713 rfl rfl (by decide +kernel) (fun _ => Nat.le_of_ble_eq_true rfl) (fun _ _ => rfl) ?_
      refine x_iload (pc := 55) dX7_sign_55 0 rfl ?_
      exact x_endI (pc := 57) dX7_sign_57 rfl h
    · have h := h.2 c14
      refine x_bipush (pc := 42) (v := (-9)) dX7_sign_42 (by decide) ?_
      exact x_endI (pc := 44) dX7_sign_44 rfl h
set_option maxRecDepth 100000 in
set_option maxHeartbeats 4000000 in
theorem t_X7_number_0 {l : Launch} {G : Gx} {P : Int32 → Mem → Prop} (hG : Mn G) (a1 : Int32) (a2 : Int32) (mem : Mem)
    (h : ∃ Q1 : Int32 → Mem → Prop, CtI l M_X7_sign G [.ref (gA G 327), .int 48, .int 0, .int (a2 / 10)] mem Q1 ∧ ∀ (r3 : Int32) (m4 : Mem), Q1 r3 m4 → ((¬ r3 = (-9) → ((¬ r3 = 0 → ((¬ r3 = (a2 / 10) → (∃ Q9 : Int32 → Mem → Prop, CtI l M_X7_sign G [.ref (gA G 327), .int 48, .int 0, .int 9] m4 Q9 ∧ ∀ (r11 : Int32) (m12 : Mem), Q9 r11 m12 → ((¬ r11 = (-9) → (P ((10 * r3) + r11) m12)) ∧ (r11 = (-9) → (P (-9) m12))))) ∧ (r3 = (a2 / 10) → (∃ Q15 : Int32 → Mem → Prop, CtI l M_X7_sign G [.ref (gA G 327), .int 48, .int 0, .int (a2 - a2 / 10 * 10)] m4 Q15 ∧ ∀ (r17 : Int32) (m18 : Mem), Q15 r17 m18 → ((¬ r17 = (-9) → (P ((10 * r3) + r17) m18)) ∧ (r17 = (-9) → (P (-9) m18))))))) ∧ (r3 = 0 → ((¬ r3 = (a2 / 10) → (∃ Q22 : Int32 → Mem → Prop, CtI l M_X7_sign G [.ref (gA G 327), .int 48, .int a1, .int 9] m4 Q22 ∧ ∀ (r24 : Int32) (m25 : Mem), Q22 r24 m25 → ((¬ r24 = (-9) → (P ((10 * r3) + r24) m25)) ∧ (r24 = (-9) → (P (-9) m25))))) ∧ (r3 = (a2 / 10) → (∃ Q28 : Int32 → Mem → Prop, CtI l M_X7_sign G [.ref (gA G 327), .int 48, .int a1, .int (a2 - a2 / 10 * 10)] m4 Q28 ∧ ∀ (r30 : Int32) (m31 : Mem), Q28 r30 m31 → ((¬ r30 = (-9) → (P ((10 * r3) + r30) m31)) ∧ (r30 = (-9) → (P (-9) m31))))))))) ∧ (r3 = (-9) → (P (-9) m4)))) :
    XI l M_X7_number G P mem 0 [(0, .ref (gA G 327)), (1, .int a1), (2, .int a2)] [] := by
  refine x_aload_n (pc := 0) dX7_number_0 0 rfl rfl ?_
  refine x_bipush (pc := 1) (v := 48) dX7_number_1 (by decide) ?_
  refine x_iconst (pc := 3) (v := 0) dX7_number_3 (by decide) ?_
  refine x_iload_n (pc := 4) dX7_number_4 2 rfl rfl ?_
  refine x_bipush (pc := 5) (v := 10) dX7_number_5 (by decide) ?_
  refine x_idiv (pc := 7) dX7_number_7 (by decide) ?_
  obtain ⟨Q1, hc2, h⟩ := h
  refine x_callVI (pc := 8) 327 hc2 ok_X7_sign dX7_number_8 tb_808 ⟨⟨rfl, rfl⟩, ⟨by decide, by decide⟩, by decide, by decide⟩ (mK hG (by decide)) (mc_327 hG _) rfl (As := [.int 48, .int 0, .int (a2 / 10)]) rfl rfl (Nat.le_of_ble_eq_true rfl) (fun r3 m4 q5 => ?_)
  have h := h r3 m4 q5
  refine x_istore_n (pc := 11) dX7_number_11 rfl (by decide) rfl ?_
  refine x_iload_n (pc := 12) dX7_number_12 0 rfl rfl ?_
  refine x_bipush (pc := 13) (v := (-9)) dX7_number_13 (by decide) ?_
  refine x_icmp_ne (pc := 15) (tgt := 21) dX7_number_15 (by decide) (fun c6 => ?_) (fun c6 => ?_)
  · have h := h.1 c6
    refine x_aload_n (pc := 21) dX7_number_21 1 rfl rfl ?_
    refine x_bipush (pc := 22) (v := 48) dX7_number_22 (by decide) ?_
    refine x_iload_n (pc := 24) dX7_number_24 0 rfl rfl ?_
    refine x_if_ne (pc := 25) (tgt := 32) dX7_number_25 (by decide) (fun c7 => ?_) (fun c7 => ?_)
    · have h := h.1 c7
      refine x_iconst (pc := 32) (v := 0) dX7_number_32 (by decide) ?_
      refine x_iload_n (pc := 33) dX7_number_33 0 rfl rfl ?_
      refine x_iload_n (pc := 34) dX7_number_34 3 rfl rfl ?_
      refine x_bipush (pc := 35) (v := 10) dX7_number_35 (by decide) ?_
      refine x_idiv (pc := 37) dX7_number_37 (by decide) ?_
      refine x_icmp_ne (pc := 38) (tgt := 48) dX7_number_38 (by decide) (fun c8 => ?_) (fun c8 => ?_)
      · have h := h.1 c8
        refine x_bipush (pc := 48) (v := 9) dX7_number_48 (by decide) ?_
        obtain ⟨Q9, hc10, h⟩ := h
        refine x_callVI (pc := 50) 327 hc10 ok_X7_sign dX7_number_50 tb_808 ⟨⟨rfl, rfl⟩, ⟨by decide, by decide⟩, by decide, by decide⟩ (mK hG (by decide)) (mc_327 hG _) rfl (As := [.int 48, .int 0, .int 9]) rfl rfl (Nat.le_of_ble_eq_true rfl) (fun r11 m12 q13 => ?_)
        have h := h r11 m12 q13
        refine x_istore (pc := 53) dX7_number_53 (by decide) rfl ?_
        refine x_iload (pc := 55) dX7_number_55 0 rfl ?_
        refine x_bipush (pc := 57) (v := (-9)) dX7_number_57 (by decide) ?_
        refine x_icmp_ne (pc := 59) (tgt := 67) dX7_number_59 (by decide) (fun c14 => ?_) (fun c14 => ?_)
        · have h := h.1 c14
          refine x_bipush (pc := 67) (v := 10) dX7_number_67 (by decide) ?_
          refine x_iload_n (pc := 69) dX7_number_69 1 rfl rfl ?_
          refine x_imul (pc := 70) dX7_number_70 ?_
          refine x_iload (pc := 71) dX7_number_71 0 rfl ?_
          refine x_iadd (pc := 73) dX7_number_73 ?_
          exact x_endI (pc := 74) dX7_number_74 rfl h
        · have h := h.2 c14
          refine x_bipush (pc := 62) (v := (-9)) dX7_number_62 (by decide) ?_
          refine x_goto (pc := 64) (tgt := 74) dX7_number_64 (by decide) ?_
          exact x_endI (pc := 74) dX7_number_74 rfl h
      · have h := h.2 c8
        refine x_iload_n (pc := 41) dX7_number_41 3 rfl rfl ?_
        refine x_bipush (pc := 42) (v := 10) dX7_number_42 (by decide) ?_
        refine x_irem (pc := 44) dX7_number_44 (by decide) ?_
        refine x_goto (pc := 45) (tgt := 50) dX7_number_45 (by decide) ?_
        obtain ⟨Q15, hc16, h⟩ := h
        refine x_callVI (pc := 50) 327 hc16 ok_X7_sign dX7_number_50 tb_808 ⟨⟨rfl, rfl⟩, ⟨by decide, by decide⟩, by decide, by decide⟩ (mK hG (by decide)) (mc_327 hG _) rfl (As := [.int 48, .int 0, .int (a2 - a2 / 10 * 10)]) rfl rfl (Nat.le_of_ble_eq_true rfl) (fun r17 m18 q19 => ?_)
        have h := h r17 m18 q19
        refine x_istore (pc := 53) dX7_number_53 (by decide) rfl ?_
        refine x_iload (pc := 55) dX7_number_55 0 rfl ?_
        refine x_bipush (pc := 57) (v := (-9)) dX7_number_57 (by decide) ?_
        refine x_icmp_ne (pc := 59) (tgt := 67) dX7_number_59 (by decide) (fun c20 => ?_) (fun c20 => ?_)
        · have h := h.1 c20
          refine x_bipush (pc := 67) (v := 10) dX7_number_67 (by decide) ?_
          refine x_iload_n (pc := 69) dX7_number_69 1 rfl rfl ?_
          refine x_imul (pc := 70) dX7_number_70 ?_
          refine x_iload (pc := 71) dX7_number_71 0 rfl ?_
          refine x_iadd (pc := 73) dX7_number_73 ?_
          exact x_endI (pc := 74) dX7_number_74 rfl h
        · have h := h.2 c20
          refine x_bipush (pc := 62) (v := (-9)) dX7_number_62 (by decide) ?_
          refine x_goto (pc := 64) (tgt := 74) dX7_number_64 (by decide) ?_
          exact x_endI (pc := 74) dX7_number_74 rfl h
    · have h := h.2 c7
      refine x_iload_n (pc := 28) dX7_number_28 2 rfl rfl ?_
      refine x_goto (pc := 29) (tgt := 33) dX7_number_29 (by decide) ?_
      refine x_iload_n (pc := 33) dX7_number_33 0 rfl rfl ?_
      refine x_iload_n (pc := 34) dX7_number_34 3 rfl rfl ?_
      refine x_bipush (pc := 35) (v := 10) dX7_number_35 (by decide) ?_
      refine x_idiv (pc := 37) dX7_number_37 (by decide) ?_
      refine x_icmp_ne (pc := 38) (tgt := 48) dX7_number_38 (by decide) (fun c21 => ?_) (fun c21 => ?_)
      · have h := h.1 c21
        refine x_bipush (pc := 48) (v := 9) dX7_number_48 (by decide) ?_
        obtain ⟨Q22, hc23, h⟩ := h
        refine x_callVI (pc := 50) 327 hc23 ok_X7_sign dX7_number_50 tb_808 ⟨⟨rfl, rfl⟩, ⟨by decide, by decide⟩, by decide, by decide⟩ (mK hG (by decide)) (mc_327 hG _) rfl (As := [.int 48, .int a1, .int 9]) rfl rfl (Nat.le_of_ble_eq_true rfl) (fun r24 m25 q26 => ?_)
        have h := h r24 m25 q26
        refine x_istore (pc := 53) dX7_number_53 (by decide) rfl ?_
        refine x_iload (pc := 55) dX7_number_55 0 rfl ?_
        refine x_bipush (pc := 57) (v := (-9)) dX7_number_57 (by decide) ?_
        refine x_icmp_ne (pc := 59) (tgt := 67) dX7_number_59 (by decide) (fun c27 => ?_) (fun c27 => ?_)
        · have h := h.1 c27
          refine x_bipush (pc := 67) (v := 10) dX7_number_67 (by decide) ?_
          refine x_iload_n (pc := 69) dX7_number_69 1 rfl rfl ?_
          refine x_imul (pc := 70) dX7_number_70 ?_
          refine x_iload (pc := 71) dX7_number_71 0 rfl ?_
          refine x_iadd (pc := 73) dX7_number_73 ?_
          exact x_endI (pc := 74) dX7_number_74 rfl h
        · have h := h.2 c27
          refine x_bipush (pc := 62) (v := (-9)) dX7_number_62 (by decide) ?_
          refine x_goto (pc := 64) (tgt := 74) dX7_number_64 (by decide) ?_
          exact x_endI (pc := 74) dX7_number_74 rfl h
      · have h := h.2 c21
        refine x_iload_n (pc := 41) dX7_number_41 3 rfl rfl ?_
        refine x_bipush (pc := 42) (v := 10) dX7_number_42 (by decide) ?_
        refine x_irem (pc := 44) dX7_number_44 (by decide) ?_
        refine x_goto (pc := 45) (tgt := 50) dX7_number_45 (by decide) ?_
        obtain ⟨Q28, hc29, h⟩ := h
        refine x_callVI (pc := 50) 327 hc29 ok_X7_sign dX7_number_50 tb_808 ⟨⟨rfl, rfl⟩, ⟨by decide, by decide⟩, by decide, by decide⟩ (mK hG (by decide)) (mc_327 hG _) rfl (As := [.int 48, .int a1, .int (a2 - a2 / 10 * 10)]) rfl rfl (Nat.le_of_ble_eq_true rfl) (fun r30 m31 q32 => ?_)
        have h := h r30 m31 q32
        refine x_istore (pc := 53) dX7_number_53 (by decide) rfl ?_
        refine x_iload (pc := 55) dX7_number_55 0 rfl ?_
        refine x_bipush (pc := 57) (v := (-9)) dX7_number_57 (by decide) ?_
        refine x_icmp_ne (pc := 59) (tgt := 67) dX7_number_59 (by decide) (fun c33 => ?_) (fun c33 => ?_)
        · have h := h.1 c33
          refine x_bipush (pc := 67) (v := 10) dX7_number_67 (by decide) ?_
          refine x_iload_n (pc := 69) dX7_number_69 1 rfl rfl ?_
          refine x_imul (pc := 70) dX7_number_70 ?_
          refine x_iload (pc := 71) dX7_number_71 0 rfl ?_
          refine x_iadd (pc := 73) dX7_number_73 ?_
          exact x_endI (pc := 74) dX7_number_74 rfl h
        · have h := h.2 c33
          refine x_bipush (pc := 62) (v := (-9)) dX7_number_62 (by decide) ?_
          refine x_goto (pc := 64) (tgt := 74) dX7_number_64 (by decide) ?_
          exact x_endI (pc := 74) dX7_number_74 rfl h
  · have h := h.2 c6
    refine x_bipush (pc := 18) (v := (-9)) dX7_number_18 (by decide) ?_
    exact x_endI (pc := 20) dX7_number_20 rfl h
set_option maxRecDepth 100000 in
set_option maxHeartbeats 4000000 in
theorem t_X7_readEdge_0 {l : Launch} {G : Gx} {P : Int32 → Mem → Prop} (hG : Mn G)  (mem : Mem)
    (h : ∃ Q1 : Int32 → Mem → Prop, CtI l M_X7_sign G [.ref (gA G 327), .int 97, .int 0, .int ((mem 327 4) - 1)] mem Q1 ∧ ∀ (r3 : Int32) (m4 : Mem), Q1 r3 m4 → ((¬ r3 = (-9) → (∃ Q7 : Int32 → Mem → Prop, CtI l M_X7_sign G [.ref (gA G 327), .int 97, .int 0, .int ((m4 327 4) - 1)] m4 Q7 ∧ ∀ (r9 : Int32) (m10 : Mem), Q7 r9 m10 → ((¬ r9 = (-9) → (∃ Q13 : Int32 → Mem → Prop, CtI l M_X7_isOneTree G [.ref (gA G 327), .ref (gA G 331), .int r3, .int r9] m10 Q13 ∧ ∀ (r15 : Int32) (m16 : Mem), Q13 r15 m16 → ((r15 = 0 → (∃ Q19 : Int32 → Mem → Prop, CtI l M_X7_number G [.ref (gA G 327), .int 1, .int 99] m16 Q19 ∧ ∀ (r21 : Int32) (m22 : Mem), Q19 r21 m22 → ((¬ r21 = (-9) → (∃ Q25 : Mem → Prop, CtV l M_X7_join G [.ref (gA G 331), .int r3, .int r9, .int r21] m22 Q25 ∧ ∀ m28 : Mem, Q25 m28 → (P 1 m28))) ∧ (r21 = (-9) → (P 0 m22))))) ∧ (¬ r15 = 0 → (P 0 (wr m16 327 2 ((m16 327 2) - 1))))))) ∧ (r9 = (-9) → (P 0 m10))))) ∧ (r3 = (-9) → (P 0 m4)))) :
    XI l M_X7_readEdge G P mem 0 [(0, .ref (gA G 327))] [] := by
  refine x_aload_n (pc := 0) dX7_readEdge_0 0 rfl rfl ?_
  refine x_bipush (pc := 1) (v := 97) dX7_readEdge_1 (by decide) ?_
  refine x_iconst (pc := 3) (v := 0) dX7_readEdge_3 (by decide) ?_
  refine x_aload_n (pc := 4) dX7_readEdge_4 0 rfl rfl ?_
  refine x_get (pc := 5) 327 4 dX7_readEdge_5 (mK hG (by decide)) (mc_327 hG _) rfl inX7 (by decide) tb_715 rfl rfl ?_
  refine x_iconst (pc := 8) (v := 1) dX7_readEdge_8 (by decide) ?_
  refine x_isub (pc := 9) dX7_readEdge_9 ?_
  obtain ⟨Q1, hc2, h⟩ := h
  refine x_callVI (pc := 10) 327 hc2 ok_X7_sign dX7_readEdge_10 tb_808 ⟨⟨rfl, rfl⟩, ⟨by decide, by decide⟩, by decide, by decide⟩ (mK hG (by decide)) (mc_327 hG _) rfl (As := [.int 97, .int 0, .int ((mem 327 4) - 1)]) rfl rfl (Nat.le_of_ble_eq_true rfl) (fun r3 m4 q5 => ?_)
  have h := h r3 m4 q5
  refine x_istore_n (pc := 13) dX7_readEdge_13 rfl (by decide) rfl ?_
  refine x_iload_n (pc := 14) dX7_readEdge_14 0 rfl rfl ?_
  refine x_bipush (pc := 15) (v := (-9)) dX7_readEdge_15 (by decide) ?_
  refine x_icmp_ne (pc := 17) (tgt := 22) dX7_readEdge_17 (by decide) (fun c6 => ?_) (fun c6 => ?_)
  · have h := h.1 c6
    refine x_aload_n (pc := 22) dX7_readEdge_22 1 rfl rfl ?_
    refine x_bipush (pc := 23) (v := 97) dX7_readEdge_23 (by decide) ?_
    refine x_iconst (pc := 25) (v := 0) dX7_readEdge_25 (by decide) ?_
    refine x_aload_n (pc := 26) dX7_readEdge_26 1 rfl rfl ?_
    refine x_get (pc := 27) 327 4 dX7_readEdge_27 (mK hG (by decide)) (mc_327 hG _) rfl inX7 (by decide) tb_715 rfl rfl ?_
    refine x_iconst (pc := 30) (v := 1) dX7_readEdge_30 (by decide) ?_
    refine x_isub (pc := 31) dX7_readEdge_31 ?_
    obtain ⟨Q7, hc8, h⟩ := h
    refine x_callVI (pc := 32) 327 hc8 ok_X7_sign dX7_readEdge_32 tb_808 ⟨⟨rfl, rfl⟩, ⟨by decide, by decide⟩, by decide, by decide⟩ (mK hG (by decide)) (mc_327 hG _) rfl (As := [.int 97, .int 0, .int ((m4 327 4) - 1)]) rfl rfl (Nat.le_of_ble_eq_true rfl) (fun r9 m10 q11 => ?_)
    have h := h r9 m10 q11
    refine x_istore_n (pc := 35) dX7_readEdge_35 rfl (by decide) rfl ?_
    refine x_iload_n (pc := 36) dX7_readEdge_36 0 rfl rfl ?_
    refine x_bipush (pc := 37) (v := (-9)) dX7_readEdge_37 (by decide) ?_
    refine x_icmp_ne (pc := 39) (tgt := 44) dX7_readEdge_39 (by decide) (fun c12 => ?_) (fun c12 => ?_)
    · have h := h.1 c12
      refine x_aload_n (pc := 44) dX7_readEdge_44 2 rfl rfl ?_
      refine x_aload_n (pc := 45) dX7_readEdge_45 2 rfl rfl ?_
      refine x_get (pc := 46) 327 7 dX7_readEdge_46 (mK hG (by decide)) (mc_327 hG _) rfl inX7 (by decide) tb_718 rfl rfl ?_
      refine x_iload_n (pc := 49) dX7_readEdge_49 1 rfl rfl ?_
      refine x_iload_n (pc := 50) dX7_readEdge_50 0 rfl rfl ?_
      obtain ⟨Q13, hc14, h⟩ := h
      refine x_callVI (pc := 51) 327 hc14 ok_X7_isOneTree dX7_readEdge_51 tb_816 ⟨⟨rfl, rfl⟩, ⟨by decide, by decide⟩, by decide, by decide⟩ (mK hG (by decide)) (mc_327 hG _) rfl (As := [.ref (gA G 331), .int r3, .int r9]) rfl rfl (Nat.le_of_ble_eq_true rfl) (fun r15 m16 q17 => ?_)
      have h := h r15 m16 q17
      refine x_if_eq (pc := 54) (tgt := 69) dX7_readEdge_54 (by decide) (fun c18 => ?_) (fun c18 => ?_)
      · have h := h.1 c18
        refine x_aload_n (pc := 69) dX7_readEdge_69 2 rfl rfl ?_
        refine x_iconst (pc := 70) (v := 1) dX7_readEdge_70 (by decide) ?_
        refine x_bipush (pc := 71) (v := 99) dX7_readEdge_71 (by decide) ?_
        obtain ⟨Q19, hc20, h⟩ := h
        refine x_callVI (pc := 73) 327 hc20 ok_X7_number dX7_readEdge_73 tb_804 ⟨⟨rfl, rfl⟩, ⟨by decide, by decide⟩, by decide, by decide⟩ (mK hG (by decide)) (mc_327 hG _) rfl (As := [.int 1, .int 99]) rfl rfl (Nat.le_of_ble_eq_true rfl) (fun r21 m22 q23 => ?_)
        have h := h r21 m22 q23
        refine x_istore_n (pc := 76) dX7_readEdge_76 rfl (by decide) rfl ?_
        refine x_iload_n (pc := 77) dX7_readEdge_77 0 rfl rfl ?_
        refine x_bipush (pc := 78) (v := (-9)) dX7_readEdge_78 (by decide) ?_
        refine x_icmp_ne (pc := 80) (tgt := 85) dX7_readEdge_80 (by decide) (fun c24 => ?_) (fun c24 => ?_)
        · have h := h.1 c24
          refine x_aload_n (pc := 85) dX7_readEdge_85 3 rfl rfl ?_
          refine x_get (pc := 86) 327 7 dX7_readEdge_86 (mK hG (by decide)) (mc_327 hG _) rfl inX7 (by decide) tb_718 rfl rfl ?_
          refine x_iload_n (pc := 89) dX7_readEdge_89 2 rfl rfl ?_
          refine x_iload_n (pc := 90) dX7_readEdge_90 1 rfl rfl ?_
          refine x_iload_n (pc := 91) dX7_readEdge_91 0 rfl rfl ?_
          obtain ⟨Q25, hc26, h⟩ := h
          refine x_callSV (pc := 92) hc26 ok_X7_join dX7_readEdge_92 tb_831 ⟨⟨rfl, rfl⟩, ⟨by decide, by decide⟩, by decide, by decide⟩ rfl rfl (Nat.le_of_ble_eq_true rfl) (fun m28 q29 => ?_)
          have h := h m28 q29
          refine x_iconst (pc := 95) (v := 1) dX7_readEdge_95 (by decide) ?_
          exact x_endZ (pc := 96) dX7_readEdge_96 rfl (Or.inr rfl) h
        · have h := h.2 c24
          refine x_iconst (pc := 83) (v := 0) dX7_readEdge_83 (by decide) ?_
          exact x_endZ (pc := 84) dX7_readEdge_84 rfl (Or.inl rfl) h
      · have h := h.2 c18
        refine x_aload_n (pc := 57) dX7_readEdge_57 2 rfl rfl ?_
        refine x_dup (pc := 58) dX7_readEdge_58 rfl ?_
        refine x_get (pc := 59) 327 2 dX7_readEdge_59 (mK hG (by decide)) (mc_327 hG _) rfl inX7 (by decide) tb_713 rfl rfl ?_
        refine x_iconst (pc := 62) (v := 1) dX7_readEdge_62 (by decide) ?_
        refine x_isub (pc := 63) dX7_readEdge_63 ?_
        refine x_put (pc := 64) 327 2 dX7_readEdge_64 (mK hG (by decide)) (mc_327 hG) rfl inX7 tyX7 tyX7_ok nmX7 (by decide) tb_713 rfl rfl (by decide +kernel) (fun _ => Nat.le_of_ble_eq_true rfl) (fun _ _ => rfl) ?_
        refine x_iconst (pc := 67) (v := 0) dX7_readEdge_67 (by decide) ?_
        exact x_endZ (pc := 68) dX7_readEdge_68 rfl (Or.inl rfl) h
    · have h := h.2 c12
      refine x_iconst (pc := 42) (v := 0) dX7_readEdge_42 (by decide) ?_
      exact x_endZ (pc := 43) dX7_readEdge_43 rfl (Or.inl rfl) h
  · have h := h.2 c6
    refine x_iconst (pc := 20) (v := 0) dX7_readEdge_20 (by decide) ?_
    exact x_endZ (pc := 21) dX7_readEdge_21 rfl (Or.inl rfl) h
set_option maxRecDepth 100000 in
set_option maxHeartbeats 4000000 in
theorem t_X7_readText_0 {l : Launch} {G : Gx} {P : Int32 → Mem → Prop} (hG : Mn G)  (mem : Mem)
    (h : XI l M_X7_readText G P mem 2 [(0, .ref (gA G 327)), (1, .int 0)] []) :
    XI l M_X7_readText G P mem 0 [(0, .ref (gA G 327))] [] := by
  refine x_iconst (pc := 0) (v := 0) dX7_readText_0 (by decide) ?_
  refine x_istore_n (pc := 1) dX7_readText_1 rfl (by decide) rfl ?_
  exact x_sub [1, 0] rfl h
set_option maxRecDepth 100000 in
set_option maxHeartbeats 4000000 in
theorem t_X7_readText_2 {l : Launch} {G : Gx} {P : Int32 → Mem → Prop} (hG : Mn G) (a1 : Int32) (mem : Mem)
    (h : (156 ≤ a1 → ((((wr mem 327 2 0) 327 1) = 0 → (P 0 (wr mem 327 2 0))) ∧ (¬ ((wr mem 327 2 0) 327 1) = 0 → ((((wr mem 327 2 0) 328 (0 : Int32).toNatClampNeg) = 70 → (∃ Q5 : Int32 → Mem → Prop, CtI l M_X7_number G [.ref (gA G 327), .int 1, .int 12] (wr (wr mem 327 2 0) 327 2 1) Q5 ∧ ∀ (r7 : Int32) (m8 : Mem), Q5 r7 m8 → ((¬ ((wr m8 327 4 r7) 327 4) = (-9) → (XI l M_X7_readText G P (wr m8 327 4 r7) 79 [(0, .ref (gA G 327)), (1, .int 0)] [])) ∧ (((wr m8 327 4 r7) 327 4) = (-9) → (P ((wr m8 327 4 r7) 327 2) (wr m8 327 4 r7)))))) ∧ (¬ ((wr mem 327 2 0) 328 (0 : Int32).toNatClampNeg) = 70 → (P 0 (wr mem 327 2 0))))))) ∧ (¬ 156 ≤ a1 → (vp_in a1 156 ∧ (XI l M_X7_readText G P (wr mem 331 a1.toNatClampNeg 0) 2 [(0, .ref (gA G 327)), (1, .int (a1 + 1))] [])))) :
    XI l M_X7_readText G P mem 2 [(0, .ref (gA G 327)), (1, .int a1)] [] := by
  refine x_iload_n (pc := 2) dX7_readText_2 1 rfl rfl ?_
  refine x_sipush (pc := 3) (v := 156) dX7_readText_3 (by decide) ?_
  refine x_icmp_ge (pc := 6) (tgt := 22) dX7_readText_6 (by decide) (fun c1 => ?_) (fun c1 => ?_)
  · have h := h.1 c1
    refine x_aload_n (pc := 22) dX7_readText_22 0 rfl rfl ?_
    refine x_iconst (pc := 23) (v := 0) dX7_readText_23 (by decide) ?_
    refine x_put (pc := 24) 327 2 dX7_readText_24 (mK hG (by decide)) (mc_327 hG) rfl inX7 tyX7 tyX7_ok nmX7 (by decide) tb_713 rfl rfl (by decide +kernel) (fun _ => Nat.le_of_ble_eq_true rfl) (fun _ _ => rfl) ?_
    refine x_aload_n (pc := 27) dX7_readText_27 0 rfl rfl ?_
    refine x_get (pc := 28) 327 1 dX7_readText_28 (mK hG (by decide)) (mc_327 hG _) rfl inX7 (by decide) tb_712 rfl rfl ?_
    refine x_if_eq (pc := 31) (tgt := 45) dX7_readText_31 (by decide) (fun c2 => ?_) (fun c2 => ?_)
    · have h := h.1 c2
      refine x_iconst (pc := 45) (v := 0) dX7_readText_45 (by decide) ?_
      exact x_endI (pc := 46) dX7_readText_46 rfl h
    · have h := h.2 c2
      refine x_aload_n (pc := 34) dX7_readText_34 0 rfl rfl ?_
      refine x_get (pc := 35) 327 0 dX7_readText_35 (mK hG (by decide)) (mc_327 hG _) rfl inX7 (by decide) tb_711 rfl rfl ?_
      refine x_iconst (pc := 38) (v := 0) dX7_readText_38 (by decide) ?_
      have n3 : vp_in 0 80 := (by unfold vp_in; decide)
      refine x_iald (pc := 39) 328 dX7_readText_39 (mK hG (by decide)) (mc_328 hG _) n3 ?_
      refine x_bipush (pc := 40) (v := 70) dX7_readText_40 (by decide) ?_
      refine x_icmp_eq (pc := 42) (tgt := 47) dX7_readText_42 (by decide) (fun c4 => ?_) (fun c4 => ?_)
      · have h := h.1 c4
        refine x_aload_n (pc := 47) dX7_readText_47 0 rfl rfl ?_
        refine x_iconst (pc := 48) (v := 1) dX7_readText_48 (by decide) ?_
        refine x_put (pc := 49) 327 2 dX7_readText_49 (mK hG (by decide)) (mc_327 hG) rfl inX7 tyX7 tyX7_ok nmX7 (by decide) tb_713 rfl rfl (by decide +kernel) (fun _ => Nat.le_of_ble_eq_true rfl) (fun _ _ => rfl) ?_
        refine x_aload_n (pc := 52) dX7_readText_52 0 rfl rfl ?_
        refine x_aload_n (pc := 53) dX7_readText_53 0 rfl rfl ?_
        refine x_iconst (pc := 54) (v := 1) dX7_readText_54 (by decide) ?_
        refine x_bipush (pc := 55) (v := 12) dX7_readText_55 (by decide) ?_
        obtain ⟨Q5, hc6, h⟩ := h
        refine x_callVI (pc := 57) 327 hc6 ok_X7_number dX7_readText_57 tb_804 ⟨⟨rfl, rfl⟩, ⟨by decide, by decide⟩, by decide, by decide⟩ (mK hG (by decide)) (mc_327 hG _) rfl (As := [.int 1, .int 12]) rfl rfl (Nat.le_of_ble_eq_true rfl) (fun r7 m8 q9 => ?_)
        have h := h r7 m8 q9
        refine x_put (pc := 60) 327 4 dX7_readText_60 (mK hG (by decide)) (mc_327 hG) rfl inX7 tyX7 tyX7_ok nmX7 (by decide) tb_715 rfl rfl (by decide +kernel) (fun _ => Nat.le_of_ble_eq_true rfl) (fun _ _ => rfl) ?_
        refine x_aload_n (pc := 63) dX7_readText_63 0 rfl rfl ?_
        refine x_get (pc := 64) 327 4 dX7_readText_64 (mK hG (by decide)) (mc_327 hG _) rfl inX7 (by decide) tb_715 rfl rfl ?_
        refine x_bipush (pc := 67) (v := (-9)) dX7_readText_67 (by decide) ?_
        refine x_icmp_ne (pc := 69) (tgt := 77) dX7_readText_69 (by decide) (fun c10 => ?_) (fun c10 => ?_)
        · have h := h.1 c10
          refine x_iconst (pc := 77) (v := 0) dX7_readText_77 (by decide) ?_
          refine x_istore_n (pc := 78) dX7_readText_78 rfl (by decide) rfl ?_
          exact x_sub [1, 0] rfl h
        · have h := h.2 c10
          refine x_aload_n (pc := 72) dX7_readText_72 0 rfl rfl ?_
          refine x_get (pc := 73) 327 2 dX7_readText_73 (mK hG (by decide)) (mc_327 hG _) rfl inX7 (by decide) tb_713 rfl rfl ?_
          exact x_endI (pc := 76) dX7_readText_76 rfl h
      · have h := h.2 c4
        refine x_iconst (pc := 45) (v := 0) dX7_readText_45 (by decide) ?_
        exact x_endI (pc := 46) dX7_readText_46 rfl h
  · have h := h.2 c1
    refine x_aload_n (pc := 9) dX7_readText_9 0 rfl rfl ?_
    refine x_get (pc := 10) 327 7 dX7_readText_10 (mK hG (by decide)) (mc_327 hG _) rfl inX7 (by decide) tb_718 rfl rfl ?_
    refine x_iload_n (pc := 13) dX7_readText_13 1 rfl rfl ?_
    refine x_iconst (pc := 14) (v := 0) dX7_readText_14 (by decide) ?_
    have n11 := h.1
    have h := h.2
    refine x_iast (pc := 15) 331 dX7_readText_15 (mK hG (by decide)) (mc_331 hG) n11 ?_
    refine x_iinc (pc := 16) (v := (a1 + 1)) dX7_readText_16 (k := 1) rfl rfl (by decide) rfl ?_
    refine x_goto (pc := 19) (tgt := 2) dX7_readText_19 (by decide) ?_
    exact x_sub [1, 0] rfl h
set_option maxRecDepth 100000 in
set_option maxHeartbeats 4000000 in
theorem t_X7_readText_79 {l : Launch} {G : Gx} {P : Int32 → Mem → Prop} (hG : Mn G) (a1 : Int32) (mem : Mem)
    (h : ((mem 327 4) ≤ a1 → (XI l M_X7_readText G P mem 122 [(0, .ref (gA G 327))] [])) ∧ (¬ (mem 327 4) ≤ a1 → (∃ Q2 : Int32 → Mem → Prop, CtI l M_X7_number G [.ref (gA G 327), .int 0, .int 99] mem Q2 ∧ ∀ (r4 : Int32) (m5 : Mem), Q2 r4 m5 → (vp_in a1 156 ∧ (vp_in a1 156 ∧ ((¬ ((wr m5 331 a1.toNatClampNeg r4) 331 a1.toNatClampNeg) = (-9) → (XI l M_X7_readText G P (wr m5 331 a1.toNatClampNeg r4) 79 [(0, .ref (gA G 327)), (1, .int (a1 + 1))] [])) ∧ (((wr m5 331 a1.toNatClampNeg r4) 331 a1.toNatClampNeg) = (-9) → (P ((wr m5 331 a1.toNatClampNeg r4) 327 2) (wr m5 331 a1.toNatClampNeg r4))))))))) :
    XI l M_X7_readText G P mem 79 [(0, .ref (gA G 327)), (1, .int a1)] [] := by
  refine x_iload_n (pc := 79) dX7_readText_79 1 rfl rfl ?_
  refine x_aload_n (pc := 80) dX7_readText_80 0 rfl rfl ?_
  refine x_get (pc := 81) 327 4 dX7_readText_81 (mK hG (by decide)) (mc_327 hG _) rfl inX7 (by decide) tb_715 rfl rfl ?_
  refine x_icmp_ge (pc := 84) (tgt := 122) dX7_readText_84 (by decide) (fun c1 => ?_) (fun c1 => ?_)
  · have h := h.1 c1
    exact x_sub [0] rfl h
  · have h := h.2 c1
    refine x_aload_n (pc := 87) dX7_readText_87 0 rfl rfl ?_
    refine x_get (pc := 88) 327 7 dX7_readText_88 (mK hG (by decide)) (mc_327 hG _) rfl inX7 (by decide) tb_718 rfl rfl ?_
    refine x_iload_n (pc := 91) dX7_readText_91 1 rfl rfl ?_
    refine x_aload_n (pc := 92) dX7_readText_92 0 rfl rfl ?_
    refine x_iconst (pc := 93) (v := 0) dX7_readText_93 (by decide) ?_
    refine x_bipush (pc := 94) (v := 99) dX7_readText_94 (by decide) ?_
    obtain ⟨Q2, hc3, h⟩ := h
    refine x_callVI (pc := 96) 327 hc3 ok_X7_number dX7_readText_96 tb_804 ⟨⟨rfl, rfl⟩, ⟨by decide, by decide⟩, by decide, by decide⟩ (mK hG (by decide)) (mc_327 hG _) rfl (As := [.int 0, .int 99]) rfl rfl (Nat.le_of_ble_eq_true rfl) (fun r4 m5 q6 => ?_)
    have h := h r4 m5 q6
    have n7 := h.1
    have h := h.2
    refine x_iast (pc := 99) 331 dX7_readText_99 (mK hG (by decide)) (mc_331 hG) n7 ?_
    refine x_aload_n (pc := 100) dX7_readText_100 0 rfl rfl ?_
    refine x_get (pc := 101) 327 7 dX7_readText_101 (mK hG (by decide)) (mc_327 hG _) rfl inX7 (by decide) tb_718 rfl rfl ?_
    refine x_iload_n (pc := 104) dX7_readText_104 1 rfl rfl ?_
    have n8 := h.1
    refine x_iald (pc := 105) 331 dX7_readText_105 (mK hG (by decide)) (mc_331 hG _) n8 ?_
    have h := h.2
    refine x_bipush (pc := 106) (v := (-9)) dX7_readText_106 (by decide) ?_
    refine x_icmp_ne (pc := 108) (tgt := 116) dX7_readText_108 (by decide) (fun c9 => ?_) (fun c9 => ?_)
    · have h := h.1 c9
      refine x_iinc (pc := 116) (v := (a1 + 1)) dX7_readText_116 (k := 1) rfl rfl (by decide) rfl ?_
      refine x_goto (pc := 119) (tgt := 79) dX7_readText_119 (by decide) ?_
      exact x_sub [1, 0] rfl h
    · have h := h.2 c9
      refine x_aload_n (pc := 111) dX7_readText_111 0 rfl rfl ?_
      refine x_get (pc := 112) 327 2 dX7_readText_112 (mK hG (by decide)) (mc_327 hG _) rfl inX7 (by decide) tb_713 rfl rfl ?_
      exact x_endI (pc := 115) dX7_readText_115 rfl h
set_option maxRecDepth 100000 in
set_option maxHeartbeats 4000000 in
theorem t_X7_readText_122 {l : Launch} {G : Gx} {P : Int32 → Mem → Prop} (hG : Mn G)  (mem : Mem)
    (h : ((mem 327 1) ≤ (mem 327 2) → (P (-9) mem)) ∧ (¬ (mem 327 1) ≤ (mem 327 2) → (∃ Q2 : Int32 → Mem → Prop, CtI l M_X7_readEdge G [.ref (gA G 327)] mem Q2 ∧ ∀ (r4 : Int32) (m5 : Mem), Q2 r4 m5 → ((¬ r4 = 0 → (XI l M_X7_readText G P m5 122 [(0, .ref (gA G 327))] [])) ∧ (r4 = 0 → (P (m5 327 2) m5)))))) :
    XI l M_X7_readText G P mem 122 [(0, .ref (gA G 327))] [] := by
  refine x_aload_n (pc := 122) dX7_readText_122 0 rfl rfl ?_
  refine x_get (pc := 123) 327 2 dX7_readText_123 (mK hG (by decide)) (mc_327 hG _) rfl inX7 (by decide) tb_713 rfl rfl ?_
  refine x_aload_n (pc := 126) dX7_readText_126 0 rfl rfl ?_
  refine x_get (pc := 127) 327 1 dX7_readText_127 (mK hG (by decide)) (mc_327 hG _) rfl inX7 (by decide) tb_712 rfl rfl ?_
  refine x_icmp_ge (pc := 130) (tgt := 145) dX7_readText_130 (by decide) (fun c1 => ?_) (fun c1 => ?_)
  · have h := h.1 c1
    refine x_bipush (pc := 145) (v := (-9)) dX7_readText_145 (by decide) ?_
    exact x_endI (pc := 147) dX7_readText_147 rfl h
  · have h := h.2 c1
    refine x_aload_n (pc := 133) dX7_readText_133 0 rfl rfl ?_
    obtain ⟨Q2, hc3, h⟩ := h
    refine x_callVI (pc := 134) 327 hc3 ok_X7_readEdge dX7_readText_134 tb_812 ⟨⟨rfl, rfl⟩, ⟨by decide, by decide⟩, by decide, by decide⟩ (mK hG (by decide)) (mc_327 hG _) rfl (As := []) rfl rfl (Nat.le_of_ble_eq_true rfl) (fun r4 m5 q6 => ?_)
    have h := h r4 m5 q6
    refine x_if_ne (pc := 137) (tgt := 122) dX7_readText_137 (by decide) (fun c7 => ?_) (fun c7 => ?_)
    · have h := h.1 c7
      exact x_sub [0] rfl h
    · have h := h.2 c7
      refine x_aload_n (pc := 140) dX7_readText_140 0 rfl rfl ?_
      refine x_get (pc := 141) 327 2 dX7_readText_141 (mK hG (by decide)) (mc_327 hG _) rfl inX7 (by decide) tb_713 rfl rfl ?_
      exact x_endI (pc := 144) dX7_readText_144 rfl h
set_option maxRecDepth 100000 in
set_option maxHeartbeats 4000000 in
theorem t_X7_errorPosition_0 {l : Launch} {G : Gx} {P : Int32 → Mem → Prop} (hG : Mn G)  (mem : Mem)
    (h : ∃ Q1 : Int32 → Mem → Prop, CtI l M_X7_readText G [.ref (gA G 327)] mem Q1 ∧ ∀ (r3 : Int32) (m4 : Mem), Q1 r3 m4 → (P r3 m4)) :
    XI l M_X7_errorPosition G P mem 0 [(0, .ref (gA G 327))] [] := by
  refine x_aload_n (pc := 0) dX7_errorPosition_0 0 rfl rfl ?_
  obtain ⟨Q1, hc2, h⟩ := h
  refine x_callVI (pc := 1) 327 hc2 ok_X7_readText dX7_errorPosition_1 tb_800 ⟨⟨rfl, rfl⟩, ⟨by decide, by decide⟩, by decide, by decide⟩ (mK hG (by decide)) (mc_327 hG _) rfl (As := []) rfl rfl (Nat.le_of_ble_eq_true rfl) (fun r3 m4 q5 => ?_)
  have h := h r3 m4 q5
  exact x_endI (pc := 4) dX7_errorPosition_4 rfl h
set_option maxRecDepth 100000 in
set_option maxHeartbeats 4000000 in
theorem t_X7_load_0 {l : Launch} {G : Gx} {P : Int32 → Mem → Prop} (hG : Mn G)  (mem : Mem)
    (h : ∃ Q1 : Int32 → Mem → Prop, CtI l M_X7_readText G [.ref (gA G 327)] mem Q1 ∧ ∀ (r3 : Int32) (m4 : Mem), Q1 r3 m4 → ((r3 = (-9) → (∃ Q7 : Mem → Prop, CtV l M_X7_copy G [.ref (gA G 331), .ref (gA G 329)] m4 Q7 ∧ ∀ m10 : Mem, Q7 m10 → (∃ Q14 : Int32 → Mem → Prop, CtI l M_X7_edgesOf G [.ref (gA G 329)] (wr (wr (wr (wr m10 327 3 (m10 327 4)) 327 9 0) 334 ((0 : Int32).toNatClampNeg) 0) 334 ((1 : Int32).toNatClampNeg) 0) Q14 ∧ ∀ (r16 : Int32) (m17 : Mem), Q14 r16 m17 → (P r16 m17)))) ∧ (¬ r3 = (-9) → (P (-3) m4)))) :
    XI l M_X7_load G P mem 0 [(0, .ref (gA G 327))] [] := by
  refine x_aload_n (pc := 0) dX7_load_0 0 rfl rfl ?_
  obtain ⟨Q1, hc2, h⟩ := h
  refine x_callVI (pc := 1) 327 hc2 ok_X7_readText dX7_load_1 tb_800 ⟨⟨rfl, rfl⟩, ⟨by decide, by decide⟩, by decide, by decide⟩ (mK hG (by decide)) (mc_327 hG _) rfl (As := []) rfl rfl (Nat.le_of_ble_eq_true rfl) (fun r3 m4 q5 => ?_)
  have h := h r3 m4 q5
  refine x_bipush (pc := 4) (v := (-9)) dX7_load_4 (by decide) ?_
  refine x_icmp_eq (pc := 6) (tgt := 12) dX7_load_6 (by decide) (fun c6 => ?_) (fun c6 => ?_)
  · have h := h.1 c6
    refine x_aload_n (pc := 12) dX7_load_12 0 rfl rfl ?_
    refine x_get (pc := 13) 327 7 dX7_load_13 (mK hG (by decide)) (mc_327 hG _) rfl inX7 (by decide) tb_718 rfl rfl ?_
    refine x_aload_n (pc := 16) dX7_load_16 0 rfl rfl ?_
    refine x_get (pc := 17) 327 5 dX7_load_17 (mK hG (by decide)) (mc_327 hG _) rfl inX7 (by decide) tb_716 rfl rfl ?_
    obtain ⟨Q7, hc8, h⟩ := h
    refine x_callSV (pc := 20) hc8 ok_X7_copy dX7_load_20 tb_838 ⟨⟨rfl, rfl⟩, ⟨by decide, by decide⟩, by decide, by decide⟩ rfl rfl (Nat.le_of_ble_eq_true rfl) (fun m10 q11 => ?_)
    have h := h m10 q11
    refine x_aload_n (pc := 23) dX7_load_23 0 rfl rfl ?_
    refine x_aload_n (pc := 24) dX7_load_24 0 rfl rfl ?_
    refine x_get (pc := 25) 327 4 dX7_load_25 (mK hG (by decide)) (mc_327 hG _) rfl inX7 (by decide) tb_715 rfl rfl ?_
    refine x_put (pc := 28) 327 3 dX7_load_28 (mK hG (by decide)) (mc_327 hG) rfl inX7 tyX7 tyX7_ok nmX7 (by decide) tb_714 rfl rfl (by decide +kernel) (fun _ => Nat.le_of_ble_eq_true rfl) (fun _ _ => rfl) ?_
    refine x_aload_n (pc := 31) dX7_load_31 0 rfl rfl ?_
    refine x_iconst (pc := 32) (v := 0) dX7_load_32 (by decide) ?_
    refine x_put (pc := 33) 327 9 dX7_load_33 (mK hG (by decide)) (mc_327 hG) rfl inX7 tyX7 tyX7_ok nmX7 (by decide) tb_720 rfl rfl (by decide +kernel) (fun _ => Nat.le_of_ble_eq_true rfl) (fun _ _ => rfl) ?_
    refine x_aload_n (pc := 36) dX7_load_36 0 rfl rfl ?_
    refine x_get (pc := 37) 327 12 dX7_load_37 (mK hG (by decide)) (mc_327 hG _) rfl inX7 (by decide) tb_723 rfl rfl ?_
    refine x_iconst (pc := 40) (v := 0) dX7_load_40 (by decide) ?_
    refine x_iconst (pc := 41) (v := 0) dX7_load_41 (by decide) ?_
    have n12 : vp_in 0 2 := (by unfold vp_in; decide)
    refine x_zast (pc := 42) 334 dX7_load_42 (mK hG (by decide)) (mc_334 hG) n12 (Or.inl rfl) ?_
    refine x_aload_n (pc := 43) dX7_load_43 0 rfl rfl ?_
    refine x_get (pc := 44) 327 12 dX7_load_44 (mK hG (by decide)) (mc_327 hG _) rfl inX7 (by decide) tb_723 rfl rfl ?_
    refine x_iconst (pc := 47) (v := 1) dX7_load_47 (by decide) ?_
    refine x_iconst (pc := 48) (v := 0) dX7_load_48 (by decide) ?_
    have n13 : vp_in 1 2 := (by unfold vp_in; decide)
    refine x_zast (pc := 49) 334 dX7_load_49 (mK hG (by decide)) (mc_334 hG) n13 (Or.inl rfl) ?_
    refine x_aload_n (pc := 50) dX7_load_50 0 rfl rfl ?_
    refine x_get (pc := 51) 327 5 dX7_load_51 (mK hG (by decide)) (mc_327 hG _) rfl inX7 (by decide) tb_716 rfl rfl ?_
    obtain ⟨Q14, hc15, h⟩ := h
    refine x_callSI (pc := 54) hc15 ok_X7_edgesOf dX7_load_54 tb_841 ⟨⟨rfl, rfl⟩, ⟨by decide, by decide⟩, by decide, by decide⟩ rfl rfl (Nat.le_of_ble_eq_true rfl) (fun r16 m17 q18 => ?_)
    have h := h r16 m17 q18
    exact x_endI (pc := 57) dX7_load_57 rfl h
  · have h := h.2 c6
    refine x_bipush (pc := 9) (v := (-3)) dX7_load_9 (by decide) ?_
    exact x_endI (pc := 11) dX7_load_11 rfl h
set_option maxRecDepth 100000 in
set_option maxHeartbeats 4000000 in
theorem t_X7_vertexWeight_0 {l : Launch} {G : Gx} {P : Int32 → Mem → Prop} (hG : Mn G) (a1 : Int32) (mem : Mem)
    (h : ∃ Q1 : Int32 → Mem → Prop, CtI l M_X7_isVertex G [.ref (gA G 327), .int a1] mem Q1 ∧ ∀ (r3 : Int32) (m4 : Mem), Q1 r3 m4 → ((r3 = 0 → (P (-1) m4)) ∧ (¬ r3 = 0 → (vp_in a1 156 ∧ (P (m4 329 a1.toNatClampNeg) m4))))) :
    XI l M_X7_vertexWeight G P mem 0 [(0, .ref (gA G 327)), (1, .int a1)] [] := by
  refine x_aload_n (pc := 0) dX7_vertexWeight_0 0 rfl rfl ?_
  refine x_iload_n (pc := 1) dX7_vertexWeight_1 1 rfl rfl ?_
  obtain ⟨Q1, hc2, h⟩ := h
  refine x_callVI (pc := 2) 327 hc2 ok_X7_isVertex dX7_vertexWeight_2 tb_848 ⟨⟨rfl, rfl⟩, ⟨by decide, by decide⟩, by decide, by decide⟩ (mK hG (by decide)) (mc_327 hG _) rfl (As := [.int a1]) rfl rfl (Nat.le_of_ble_eq_true rfl) (fun r3 m4 q5 => ?_)
  have h := h r3 m4 q5
  refine x_if_eq (pc := 5) (tgt := 17) dX7_vertexWeight_5 (by decide) (fun c6 => ?_) (fun c6 => ?_)
  · have h := h.1 c6
    refine x_iconst (pc := 17) (v := (-1)) dX7_vertexWeight_17 (by decide) ?_
    exact x_endI (pc := 18) dX7_vertexWeight_18 rfl h
  · have h := h.2 c6
    refine x_aload_n (pc := 8) dX7_vertexWeight_8 0 rfl rfl ?_
    refine x_get (pc := 9) 327 5 dX7_vertexWeight_9 (mK hG (by decide)) (mc_327 hG _) rfl inX7 (by decide) tb_716 rfl rfl ?_
    refine x_iload_n (pc := 12) dX7_vertexWeight_12 1 rfl rfl ?_
    have n7 := h.1
    refine x_iald (pc := 13) 329 dX7_vertexWeight_13 (mK hG (by decide)) (mc_329 hG _) n7 ?_
    have h := h.2
    refine x_goto (pc := 14) (tgt := 18) dX7_vertexWeight_14 (by decide) ?_
    exact x_endI (pc := 18) dX7_vertexWeight_18 rfl h
set_option maxRecDepth 100000 in
set_option maxHeartbeats 4000000 in
theorem t_X7_edgeWeight_0 {l : Launch} {G : Gx} {P : Int32 → Mem → Prop} (hG : Mn G) (a1 : Int32) (a2 : Int32) (mem : Mem)
    (h : ∃ Q1 : Int32 → Mem → Prop, CtI l M_X7_isVertex G [.ref (gA G 327), .int a1] mem Q1 ∧ ∀ (r3 : Int32) (m4 : Mem), Q1 r3 m4 → ((r3 = 0 → (P (-1) m4)) ∧ (¬ r3 = 0 → (∃ Q7 : Int32 → Mem → Prop, CtI l M_X7_isVertex G [.ref (gA G 327), .int a2] m4 Q7 ∧ ∀ (r9 : Int32) (m10 : Mem), Q7 r9 m10 → ((¬ r9 = 0 → (∃ Q13 : Int32 → Mem → Prop, CtI l M_X7_at G [.int a1, .int a2] m10 Q13 ∧ ∀ (r15 : Int32) (m16 : Mem), Q13 r15 m16 → (vp_in r15 156 ∧ (((m16 329 r15.toNatClampNeg) ≤ 0 → (P (-9) m16)) ∧ (¬ (m16 329 r15.toNatClampNeg) ≤ 0 → (∃ Q20 : Int32 → Mem → Prop, CtI l M_X7_at G [.int a1, .int a2] m16 Q20 ∧ ∀ (r22 : Int32) (m23 : Mem), Q20 r22 m23 → (vp_in r22 156 ∧ (P (m23 329 r22.toNatClampNeg) m23)))))))) ∧ (r9 = 0 → (P (-1) m10))))))) :
    XI l M_X7_edgeWeight G P mem 0 [(0, .ref (gA G 327)), (1, .int a1), (2, .int a2)] [] := by
  refine x_aload_n (pc := 0) dX7_edgeWeight_0 0 rfl rfl ?_
  refine x_iload_n (pc := 1) dX7_edgeWeight_1 1 rfl rfl ?_
  obtain ⟨Q1, hc2, h⟩ := h
  refine x_callVI (pc := 2) 327 hc2 ok_X7_isVertex dX7_edgeWeight_2 tb_848 ⟨⟨rfl, rfl⟩, ⟨by decide, by decide⟩, by decide, by decide⟩ (mK hG (by decide)) (mc_327 hG _) rfl (As := [.int a1]) rfl rfl (Nat.le_of_ble_eq_true rfl) (fun r3 m4 q5 => ?_)
  have h := h r3 m4 q5
  refine x_if_eq (pc := 5) (tgt := 16) dX7_edgeWeight_5 (by decide) (fun c6 => ?_) (fun c6 => ?_)
  · have h := h.1 c6
    refine x_iconst (pc := 16) (v := (-1)) dX7_edgeWeight_16 (by decide) ?_
    exact x_endI (pc := 17) dX7_edgeWeight_17 rfl h
  · have h := h.2 c6
    refine x_aload_n (pc := 8) dX7_edgeWeight_8 0 rfl rfl ?_
    refine x_iload_n (pc := 9) dX7_edgeWeight_9 2 rfl rfl ?_
    obtain ⟨Q7, hc8, h⟩ := h
    refine x_callVI (pc := 10) 327 hc8 ok_X7_isVertex dX7_edgeWeight_10 tb_848 ⟨⟨rfl, rfl⟩, ⟨by decide, by decide⟩, by decide, by decide⟩ (mK hG (by decide)) (mc_327 hG _) rfl (As := [.int a2]) rfl rfl (Nat.le_of_ble_eq_true rfl) (fun r9 m10 q11 => ?_)
    have h := h r9 m10 q11
    refine x_if_ne (pc := 13) (tgt := 18) dX7_edgeWeight_13 (by decide) (fun c12 => ?_) (fun c12 => ?_)
    · have h := h.1 c12
      refine x_aload_n (pc := 18) dX7_edgeWeight_18 0 rfl rfl ?_
      refine x_get (pc := 19) 327 5 dX7_edgeWeight_19 (mK hG (by decide)) (mc_327 hG _) rfl inX7 (by decide) tb_716 rfl rfl ?_
      refine x_iload_n (pc := 22) dX7_edgeWeight_22 1 rfl rfl ?_
      refine x_iload_n (pc := 23) dX7_edgeWeight_23 2 rfl rfl ?_
      obtain ⟨Q13, hc14, h⟩ := h
      refine x_callSI (pc := 24) hc14 ok_X7_at dX7_edgeWeight_24 tb_828 ⟨⟨rfl, rfl⟩, ⟨by decide, by decide⟩, by decide, by decide⟩ rfl rfl (Nat.le_of_ble_eq_true rfl) (fun r15 m16 q17 => ?_)
      have h := h r15 m16 q17
      have n18 := h.1
      refine x_iald (pc := 27) 329 dX7_edgeWeight_27 (mK hG (by decide)) (mc_329 hG _) n18 ?_
      have h := h.2
      refine x_if_le (pc := 28) (tgt := 44) dX7_edgeWeight_28 (by decide) (fun c19 => ?_) (fun c19 => ?_)
      · have h := h.1 c19
        refine x_bipush (pc := 44) (v := (-9)) dX7_edgeWeight_44 (by decide) ?_
        exact x_endI (pc := 46) dX7_edgeWeight_46 rfl h
      · have h := h.2 c19
        refine x_aload_n (pc := 31) dX7_edgeWeight_31 0 rfl rfl ?_
        refine x_get (pc := 32) 327 5 dX7_edgeWeight_32 (mK hG (by decide)) (mc_327 hG _) rfl inX7 (by decide) tb_716 rfl rfl ?_
        refine x_iload_n (pc := 35) dX7_edgeWeight_35 1 rfl rfl ?_
        refine x_iload_n (pc := 36) dX7_edgeWeight_36 2 rfl rfl ?_
        obtain ⟨Q20, hc21, h⟩ := h
        refine x_callSI (pc := 37) hc21 ok_X7_at dX7_edgeWeight_37 tb_828 ⟨⟨rfl, rfl⟩, ⟨by decide, by decide⟩, by decide, by decide⟩ rfl rfl (Nat.le_of_ble_eq_true rfl) (fun r22 m23 q24 => ?_)
        have h := h r22 m23 q24
        have n25 := h.1
        refine x_iald (pc := 40) 329 dX7_edgeWeight_40 (mK hG (by decide)) (mc_329 hG _) n25 ?_
        have h := h.2
        refine x_goto (pc := 41) (tgt := 46) dX7_edgeWeight_41 (by decide) ?_
        exact x_endI (pc := 46) dX7_edgeWeight_46 rfl h
    · have h := h.2 c12
      refine x_iconst (pc := 16) (v := (-1)) dX7_edgeWeight_16 (by decide) ?_
      exact x_endI (pc := 17) dX7_edgeWeight_17 rfl h
set_option maxRecDepth 100000 in
set_option maxHeartbeats 4000000 in
theorem t_X7_treeOf_0 {l : Launch} {G : Gx} {P : Int32 → Mem → Prop} (hG : Mn G) (a1 : Int32) (mem : Mem)
    (h : ∃ Q1 : Int32 → Mem → Prop, CtI l M_X7_isVertex G [.ref (gA G 327), .int a1] mem Q1 ∧ ∀ (r3 : Int32) (m4 : Mem), Q1 r3 m4 → ((¬ r3 = 0 → (∃ Q7 : Mem → Prop, CtV l M_X7_layFar G [.ref (gA G 327), .ref (gA G 329), .int a1] m4 Q7 ∧ ∀ m10 : Mem, Q7 m10 → (XI l M_X7_treeOf G P m10 21 [(0, .ref (gA G 327)), (2, .int 0)] []))) ∧ (r3 = 0 → (P (-1) m4)))) :
    XI l M_X7_treeOf G P mem 0 [(0, .ref (gA G 327)), (1, .int a1)] [] := by
  refine x_aload_n (pc := 0) dX7_treeOf_0 0 rfl rfl ?_
  refine x_iload_n (pc := 1) dX7_treeOf_1 1 rfl rfl ?_
  obtain ⟨Q1, hc2, h⟩ := h
  refine x_callVI (pc := 2) 327 hc2 ok_X7_isVertex dX7_treeOf_2 tb_848 ⟨⟨rfl, rfl⟩, ⟨by decide, by decide⟩, by decide, by decide⟩ (mK hG (by decide)) (mc_327 hG _) rfl (As := [.int a1]) rfl rfl (Nat.le_of_ble_eq_true rfl) (fun r3 m4 q5 => ?_)
  have h := h r3 m4 q5
  refine x_if_ne (pc := 5) (tgt := 10) dX7_treeOf_5 (by decide) (fun c6 => ?_) (fun c6 => ?_)
  · have h := h.1 c6
    refine x_aload_n (pc := 10) dX7_treeOf_10 0 rfl rfl ?_
    refine x_aload_n (pc := 11) dX7_treeOf_11 0 rfl rfl ?_
    refine x_get (pc := 12) 327 5 dX7_treeOf_12 (mK hG (by decide)) (mc_327 hG _) rfl inX7 (by decide) tb_716 rfl rfl ?_
    refine x_iload_n (pc := 15) dX7_treeOf_15 1 rfl rfl ?_
    obtain ⟨Q7, hc8, h⟩ := h
    refine x_callVV (pc := 16) 327 hc8 ok_X7_layFar dX7_treeOf_16 tb_824 ⟨⟨rfl, rfl⟩, ⟨by decide, by decide⟩, by decide, by decide⟩ (mK hG (by decide)) (mc_327 hG _) rfl (As := [.ref (gA G 329), .int a1]) rfl rfl (Nat.le_of_ble_eq_true rfl) (fun m10 q11 => ?_)
    have h := h m10 q11
    refine x_iconst (pc := 19) (v := 0) dX7_treeOf_19 (by decide) ?_
    refine x_istore_n (pc := 20) dX7_treeOf_20 rfl (by decide) rfl ?_
    exact x_sub [1, 0] rfl h
  · have h := h.2 c6
    refine x_iconst (pc := 8) (v := (-1)) dX7_treeOf_8 (by decide) ?_
    exact x_endI (pc := 9) dX7_treeOf_9 rfl h
set_option maxRecDepth 100000 in
set_option maxHeartbeats 4000000 in
theorem t_X7_treeOf_21 {l : Launch} {G : Gx} {P : Int32 → Mem → Prop} (hG : Mn G) (a2 : Int32) (mem : Mem)
    (h : vp_in a2 12 ∧ ((¬ (mem 336 a2.toNatClampNeg) = (-9) → (P a2 mem)) ∧ ((mem 336 a2.toNatClampNeg) = (-9) → (XI l M_X7_treeOf G P mem 21 [(0, .ref (gA G 327)), (2, .int (a2 + 1))] [])))) :
    XI l M_X7_treeOf G P mem 21 [(0, .ref (gA G 327)), (2, .int a2)] [] := by
  refine x_aload_n (pc := 21) dX7_treeOf_21 0 rfl rfl ?_
  refine x_get (pc := 22) 327 15 dX7_treeOf_22 (mK hG (by decide)) (mc_327 hG _) rfl inX7 (by decide) tb_726 rfl rfl ?_
  refine x_iload_n (pc := 25) dX7_treeOf_25 1 rfl rfl ?_
  have n1 := h.1
  refine x_iald (pc := 26) 336 dX7_treeOf_26 (mK hG (by decide)) (mc_336 hG _) n1 ?_
  have h := h.2
  refine x_bipush (pc := 27) (v := (-9)) dX7_treeOf_27 (by decide) ?_
  refine x_icmp_ne (pc := 29) (tgt := 38) dX7_treeOf_29 (by decide) (fun c2 => ?_) (fun c2 => ?_)
  · have h := h.1 c2
    refine x_iload_n (pc := 38) dX7_treeOf_38 1 rfl rfl ?_
    exact x_endI (pc := 39) dX7_treeOf_39 rfl h
  · have h := h.2 c2
    refine x_iinc (pc := 32) (v := (a2 + 1)) dX7_treeOf_32 (k := 1) rfl rfl (by decide) rfl ?_
    refine x_goto (pc := 35) (tgt := 21) dX7_treeOf_35 (by decide) ?_
    exact x_sub [1, 0] rfl h
set_option maxRecDepth 100000 in
set_option maxHeartbeats 4000000 in
theorem t_X7_note_0 {l : Launch} {G : Gx} {P : Mem → Prop} (hG : Mn G)  (mem : Mem)
    (h : XV l M_X7_note G P mem 2 [(0, .ref (gA G 327)), (1, .int 0)] []) :
    XV l M_X7_note G P mem 0 [(0, .ref (gA G 327))] [] := by
  refine x_iconst (pc := 0) (v := 0) dX7_note_0 (by decide) ?_
  refine x_istore_n (pc := 1) dX7_note_1 rfl (by decide) rfl ?_
  exact x_sub [1, 0] rfl h
set_option maxRecDepth 100000 in
set_option maxHeartbeats 4000000 in
theorem t_X7_note_2 {l : Launch} {G : Gx} {P : Mem → Prop} (hG : Mn G) (a1 : Int32) (mem : Mem)
    (h : (156 ≤ a1 → ((14 ≤ ((wr mem 327 10 (((mem 327 10) + 1) - ((mem 327 10) + 1) / 14 * 14)) 327 9) → (P (wr (wr mem 327 10 (((mem 327 10) + 1) - ((mem 327 10) + 1) / 14 * 14)) 327 9 14))) ∧ (¬ 14 ≤ ((wr mem 327 10 (((mem 327 10) + 1) - ((mem 327 10) + 1) / 14 * 14)) 327 9) → (P (wr (wr mem 327 10 (((mem 327 10) + 1) - ((mem 327 10) + 1) / 14 * 14)) 327 9 (((wr mem 327 10 (((mem 327 10) + 1) - ((mem 327 10) + 1) / 14 * 14)) 327 9) + 1)))))) ∧ (¬ 156 ≤ a1 → (vp_in a1 156 ∧ (vp_in ((156 * (mem 327 10)) + a1) 2184 ∧ (XV l M_X7_note G P (wr mem 332 (((156 * (mem 327 10)) + a1).toNatClampNeg) (mem 329 a1.toNatClampNeg)) 2 [(0, .ref (gA G 327)), (1, .int (a1 + 1))] []))))) :
    XV l M_X7_note G P mem 2 [(0, .ref (gA G 327)), (1, .int a1)] [] := by
  refine x_iload_n (pc := 2) dX7_note_2 1 rfl rfl ?_
  refine x_sipush (pc := 3) (v := 156) dX7_note_3 (by decide) ?_
  refine x_icmp_ge (pc := 6) (tgt := 36) dX7_note_6 (by decide) (fun c1 => ?_) (fun c1 => ?_)
  · have h := h.1 c1
    refine x_aload_n (pc := 36) dX7_note_36 0 rfl rfl ?_
    refine x_aload_n (pc := 37) dX7_note_37 0 rfl rfl ?_
    refine x_get (pc := 38) 327 10 dX7_note_38 (mK hG (by decide)) (mc_327 hG _) rfl inX7 (by decide) tb_721 rfl rfl ?_
    refine x_iconst (pc := 41) (v := 1) dX7_note_41 (by decide) ?_
    refine x_iadd (pc := 42) dX7_note_42 ?_
    refine x_bipush (pc := 43) (v := 14) dX7_note_43 (by decide) ?_
    refine x_irem (pc := 45) dX7_note_45 (by decide) ?_
    refine x_put (pc := 46) 327 10 dX7_note_46 (mK hG (by decide)) (mc_327 hG) rfl inX7 tyX7 tyX7_ok nmX7 (by decide) tb_721 rfl rfl (by decide +kernel) (fun _ => Nat.le_of_ble_eq_true rfl) (fun _ _ => rfl) ?_
    refine x_aload_n (pc := 49) dX7_note_49 0 rfl rfl ?_
    refine x_aload_n (pc := 50) dX7_note_50 0 rfl rfl ?_
    refine x_get (pc := 51) 327 9 dX7_note_51 (mK hG (by decide)) (mc_327 hG _) rfl inX7 (by decide) tb_720 rfl rfl ?_
    refine x_bipush (pc := 54) (v := 14) dX7_note_54 (by decide) ?_
    refine x_icmp_ge (pc := 56) (tgt := 68) dX7_note_56 (by decide) (fun c2 => ?_) (fun c2 => ?_)
    · have h := h.1 c2
      refine x_bipush (pc := 68) (v := 14) dX7_note_68 (by decide) ?_
      refine x_put (pc := 70) 327 9 dX7_note_70 (mK hG (by decide)) (mc_327 hG) rfl inX7 tyX7 tyX7_ok nmX7 (by decide) tb_720 rfl rfl (by decide +kernel) (fun _ => Nat.le_of_ble_eq_true rfl) (fun _ _ => rfl) ?_
      exact x_endV (pc := 73) dX7_note_73 rfl h
    · have h := h.2 c2
      refine x_aload_n (pc := 59) dX7_note_59 0 rfl rfl ?_
      refine x_get (pc := 60) 327 9 dX7_note_60 (mK hG (by decide)) (mc_327 hG _) rfl inX7 (by decide) tb_720 rfl rfl ?_
      refine x_iconst (pc := 63) (v := 1) dX7_note_63 (by decide) ?_
      refine x_iadd (pc := 64) dX7_note_64 ?_
      refine x_goto (pc := 65) (tgt := 70) dX7_note_65 (by decide) ?_
      refine x_put (pc := 70) 327 9 dX7_note_70 (mK hG (by decide)) (mc_327 hG) rfl inX7 tyX7 tyX7_ok nmX7 (by decide) tb_720 rfl rfl (by decide +kernel) (fun _ => Nat.le_of_ble_eq_true rfl) (fun _ _ => rfl) ?_
      exact x_endV (pc := 73) dX7_note_73 rfl h
  · have h := h.2 c1
    refine x_aload_n (pc := 9) dX7_note_9 0 rfl rfl ?_
    refine x_get (pc := 10) 327 8 dX7_note_10 (mK hG (by decide)) (mc_327 hG _) rfl inX7 (by decide) tb_719 rfl rfl ?_
    refine x_sipush (pc := 13) (v := 156) dX7_note_13 (by decide) ?_
    refine x_aload_n (pc := 16) dX7_note_16 0 rfl rfl ?_
    refine x_get (pc := 17) 327 10 dX7_note_17 (mK hG (by decide)) (mc_327 hG _) rfl inX7 (by decide) tb_721 rfl rfl ?_
    refine x_imul (pc := 20) dX7_note_20 ?_
    refine x_iload_n (pc := 21) dX7_note_21 1 rfl rfl ?_
    refine x_iadd (pc := 22) dX7_note_22 ?_
    refine x_aload_n (pc := 23) dX7_note_23 0 rfl rfl ?_
    refine x_get (pc := 24) 327 5 dX7_note_24 (mK hG (by decide)) (mc_327 hG _) rfl inX7 (by decide) tb_716 rfl rfl ?_
    refine x_iload_n (pc := 27) dX7_note_27 1 rfl rfl ?_
    have n3 := h.1
    refine x_iald (pc := 28) 329 dX7_note_28 (mK hG (by decide)) (mc_329 hG _) n3 ?_
    have h := h.2
    have n4 := h.1
    have h := h.2
    refine x_iast (pc := 29) 332 dX7_note_29 (mK hG (by decide)) (mc_332 hG) n4 ?_
    refine x_iinc (pc := 30) (v := (a1 + 1)) dX7_note_30 (k := 1) rfl rfl (by decide) rfl ?_
    refine x_goto (pc := 33) (tgt := 2) dX7_note_33 (by decide) ?_
    exact x_sub [1, 0] rfl h
set_option maxRecDepth 100000 in
set_option maxHeartbeats 4000000 in
theorem t_X7_linkError_0 {l : Launch} {G : Gx} {P : Int32 → Mem → Prop} (hG : Mn G) {r : Nat} (hr : Ra G r) (a2 : Int32) (a3 : Int32) (a4 : Int32) (mem : Mem)
    (h : ∃ Q1 : Int32 → Mem → Prop, CtI l M_X7_isVertex G [.ref (gA G 327), .int a2] mem Q1 ∧ ∀ (r3 : Int32) (m4 : Mem), Q1 r3 m4 → ((r3 = 0 → (P (-1) m4)) ∧ (¬ r3 = 0 → (∃ Q7 : Int32 → Mem → Prop, CtI l M_X7_isVertex G [.ref (gA G 327), .int a3] m4 Q7 ∧ ∀ (r9 : Int32) (m10 : Mem), Q7 r9 m10 → ((¬ r9 = 0 → (∃ Q13 : Int32 → Mem → Prop, CtI l M_X7_in G [.long ((a4 : Int32).toInt64), .long 1, .long 99] m10 Q13 ∧ ∀ (r15 : Int32) (m16 : Mem), Q13 r15 m16 → ((¬ r15 = 0 → (∃ Q19 : Int32 → Mem → Prop, CtI l M_X7_isOneTree G [.ref (gA G 327), .ref (gA G r), .int a2, .int a3] m16 Q19 ∧ ∀ (r21 : Int32) (m22 : Mem), Q19 r21 m22 → ((r21 = 0 → (P 0 m22)) ∧ (¬ r21 = 0 → (P (-3) m22))))) ∧ (r15 = 0 → (P (-2) m16))))) ∧ (r9 = 0 → (P (-1) m10))))))) :
    XI l M_X7_linkError G P mem 0 [(0, .ref (gA G 327)), (1, .ref (gA G r)), (2, .int a2), (3, .int a3), (4, .int a4)] [] := by
  refine x_aload_n (pc := 0) dX7_linkError_0 0 rfl rfl ?_
  refine x_iload_n (pc := 1) dX7_linkError_1 2 rfl rfl ?_
  obtain ⟨Q1, hc2, h⟩ := h
  refine x_callVI (pc := 2) 327 hc2 ok_X7_isVertex dX7_linkError_2 tb_848 ⟨⟨rfl, rfl⟩, ⟨by decide, by decide⟩, by decide, by decide⟩ (mK hG (by decide)) (mc_327 hG _) rfl (As := [.int a2]) rfl rfl (Nat.le_of_ble_eq_true rfl) (fun r3 m4 q5 => ?_)
  have h := h r3 m4 q5
  refine x_if_eq (pc := 5) (tgt := 16) dX7_linkError_5 (by decide) (fun c6 => ?_) (fun c6 => ?_)
  · have h := h.1 c6
    refine x_iconst (pc := 16) (v := (-1)) dX7_linkError_16 (by decide) ?_
    exact x_endI (pc := 17) dX7_linkError_17 rfl h
  · have h := h.2 c6
    refine x_aload_n (pc := 8) dX7_linkError_8 0 rfl rfl ?_
    refine x_iload_n (pc := 9) dX7_linkError_9 3 rfl rfl ?_
    obtain ⟨Q7, hc8, h⟩ := h
    refine x_callVI (pc := 10) 327 hc8 ok_X7_isVertex dX7_linkError_10 tb_848 ⟨⟨rfl, rfl⟩, ⟨by decide, by decide⟩, by decide, by decide⟩ (mK hG (by decide)) (mc_327 hG _) rfl (As := [.int a3]) rfl rfl (Nat.le_of_ble_eq_true rfl) (fun r9 m10 q11 => ?_)
    have h := h r9 m10 q11
    refine x_if_ne (pc := 13) (tgt := 18) dX7_linkError_13 (by decide) (fun c12 => ?_) (fun c12 => ?_)
    · have h := h.1 c12
      refine x_iload (pc := 18) dX7_linkError_18 4 rfl ?_
      refine x_i2l (pc := 20) dX7_linkError_20 ?_
      refine x_lconst (pc := 21) (v := 1) dX7_linkError_21 rfl ?_
      refine x_ldc2 (pc := 22) (v := 99) dX7_linkError_22 tb_868 ?_
      obtain ⟨Q13, hc14, h⟩ := h
      refine x_callSI (pc := 25) hc14 ok_X7_in dX7_linkError_25 tb_789 ⟨⟨rfl, rfl⟩, ⟨by decide, by decide⟩, by decide, by decide⟩ rfl rfl (Nat.le_of_ble_eq_true rfl) (fun r15 m16 q17 => ?_)
      have h := h r15 m16 q17
      refine x_if_ne (pc := 28) (tgt := 34) dX7_linkError_28 (by decide) (fun c18 => ?_) (fun c18 => ?_)
      · have h := h.1 c18
        refine x_aload_n (pc := 34) dX7_linkError_34 0 rfl rfl ?_
        refine x_aload_n (pc := 35) dX7_linkError_35 1 rfl rfl ?_
        refine x_iload_n (pc := 36) dX7_linkError_36 2 rfl rfl ?_
        refine x_iload_n (pc := 37) dX7_linkError_37 3 rfl rfl ?_
        obtain ⟨Q19, hc20, h⟩ := h
        refine x_callVI (pc := 38) 327 hc20 ok_X7_isOneTree dX7_linkError_38 tb_816 ⟨⟨rfl, rfl⟩, ⟨by decide, by decide⟩, by decide, by decide⟩ (mK hG (by decide)) (mc_327 hG _) rfl (As := [.ref (gA G r), .int a2, .int a3]) rfl rfl (Nat.le_of_ble_eq_true rfl) (fun r21 m22 q23 => ?_)
        have h := h r21 m22 q23
        refine x_if_eq (pc := 41) (tgt := 49) dX7_linkError_41 (by decide) (fun c24 => ?_) (fun c24 => ?_)
        · have h := h.1 c24
          refine x_iconst (pc := 49) (v := 0) dX7_linkError_49 (by decide) ?_
          exact x_endI (pc := 50) dX7_linkError_50 rfl h
        · have h := h.2 c24
          refine x_bipush (pc := 44) (v := (-3)) dX7_linkError_44 (by decide) ?_
          refine x_goto (pc := 46) (tgt := 50) dX7_linkError_46 (by decide) ?_
          exact x_endI (pc := 50) dX7_linkError_50 rfl h
      · have h := h.2 c18
        refine x_bipush (pc := 31) (v := (-2)) dX7_linkError_31 (by decide) ?_
        exact x_endI (pc := 33) dX7_linkError_33 rfl h
    · have h := h.2 c12
      refine x_iconst (pc := 16) (v := (-1)) dX7_linkError_16 (by decide) ?_
      exact x_endI (pc := 17) dX7_linkError_17 rfl h
set_option maxRecDepth 100000 in
set_option maxHeartbeats 4000000 in
theorem t_X7_link_0 {l : Launch} {G : Gx} {P : Int32 → Mem → Prop} (hG : Mn G) (a1 : Int32) (a2 : Int32) (a3 : Int32) (mem : Mem)
    (h : ∃ Q1 : Int32 → Mem → Prop, CtI l M_X7_linkError G [.ref (gA G 327), .ref (gA G 329), .int a1, .int a2, .int a3] mem Q1 ∧ ∀ (r3 : Int32) (m4 : Mem), Q1 r3 m4 → ((r3 = 0 → (∃ Q7 : Mem → Prop, CtV l M_X7_note G [.ref (gA G 327)] m4 Q7 ∧ ∀ m10 : Mem, Q7 m10 → (∃ Q12 : Mem → Prop, CtV l M_X7_join G [.ref (gA G 329), .int a1, .int a2, .int a3] m10 Q12 ∧ ∀ m15 : Mem, Q12 m15 → (∃ Q17 : Int32 → Mem → Prop, CtI l M_X7_edgesOf G [.ref (gA G 329)] m15 Q17 ∧ ∀ (r19 : Int32) (m20 : Mem), Q17 r19 m20 → (P r19 m20))))) ∧ (¬ r3 = 0 → (P r3 m4)))) :
    XI l M_X7_link G P mem 0 [(0, .ref (gA G 327)), (1, .int a1), (2, .int a2), (3, .int a3)] [] := by
  refine x_aload_n (pc := 0) dX7_link_0 0 rfl rfl ?_
  refine x_aload_n (pc := 1) dX7_link_1 0 rfl rfl ?_
  refine x_get (pc := 2) 327 5 dX7_link_2 (mK hG (by decide)) (mc_327 hG _) rfl inX7 (by decide) tb_716 rfl rfl ?_
  refine x_iload_n (pc := 5) dX7_link_5 1 rfl rfl ?_
  refine x_iload_n (pc := 6) dX7_link_6 2 rfl rfl ?_
  refine x_iload_n (pc := 7) dX7_link_7 3 rfl rfl ?_
  obtain ⟨Q1, hc2, h⟩ := h
  refine x_callVI (pc := 8) 327 hc2 ok_X7_linkError dX7_link_8 tb_864 ⟨⟨rfl, rfl⟩, ⟨by decide, by decide⟩, by decide, by decide⟩ (mK hG (by decide)) (mc_327 hG _) rfl (As := [.ref (gA G 329), .int a1, .int a2, .int a3]) rfl rfl (Nat.le_of_ble_eq_true rfl) (fun r3 m4 q5 => ?_)
  have h := h r3 m4 q5
  refine x_istore (pc := 11) dX7_link_11 (by decide) rfl ?_
  refine x_iload (pc := 13) dX7_link_13 0 rfl ?_
  refine x_if_eq (pc := 15) (tgt := 21) dX7_link_15 (by decide) (fun c6 => ?_) (fun c6 => ?_)
  · have h := h.1 c6
    refine x_aload_n (pc := 21) dX7_link_21 1 rfl rfl ?_
    obtain ⟨Q7, hc8, h⟩ := h
    refine x_callVV (pc := 22) 327 hc8 ok_X7_note dX7_link_22 tb_869 ⟨⟨rfl, rfl⟩, ⟨by decide, by decide⟩, by decide, by decide⟩ (mK hG (by decide)) (mc_327 hG _) rfl (As := []) rfl rfl (Nat.le_of_ble_eq_true rfl) (fun m10 q11 => ?_)
    have h := h m10 q11
    refine x_aload_n (pc := 25) dX7_link_25 1 rfl rfl ?_
    refine x_get (pc := 26) 327 5 dX7_link_26 (mK hG (by decide)) (mc_327 hG _) rfl inX7 (by decide) tb_716 rfl rfl ?_
    refine x_iload_n (pc := 29) dX7_link_29 2 rfl rfl ?_
    refine x_iload_n (pc := 30) dX7_link_30 3 rfl rfl ?_
    refine x_iload_n (pc := 31) dX7_link_31 4 rfl rfl ?_
    obtain ⟨Q12, hc13, h⟩ := h
    refine x_callSV (pc := 32) hc13 ok_X7_join dX7_link_32 tb_831 ⟨⟨rfl, rfl⟩, ⟨by decide, by decide⟩, by decide, by decide⟩ rfl rfl (Nat.le_of_ble_eq_true rfl) (fun m15 q16 => ?_)
    have h := h m15 q16
    refine x_aload_n (pc := 35) dX7_link_35 1 rfl rfl ?_
    refine x_get (pc := 36) 327 5 dX7_link_36 (mK hG (by decide)) (mc_327 hG _) rfl inX7 (by decide) tb_716 rfl rfl ?_
    obtain ⟨Q17, hc18, h⟩ := h
    refine x_callSI (pc := 39) hc18 ok_X7_edgesOf dX7_link_39 tb_841 ⟨⟨rfl, rfl⟩, ⟨by decide, by decide⟩, by decide, by decide⟩ rfl rfl (Nat.le_of_ble_eq_true rfl) (fun r19 m20 q21 => ?_)
    have h := h r19 m20 q21
    exact x_endI (pc := 42) dX7_link_42 rfl h
  · have h := h.2 c6
    refine x_iload (pc := 18) dX7_link_18 0 rfl ?_
    exact x_endI (pc := 20) dX7_link_20 rfl h
set_option maxRecDepth 100000 in
set_option maxHeartbeats 4000000 in
theorem t_X7_edgeError_0 {l : Launch} {G : Gx} {P : Int32 → Mem → Prop} (hG : Mn G) {r : Nat} (hr : Ra G r) (a2 : Int32) (a3 : Int32) (a4 : Int32) (mem : Mem)
    (h : ∃ Q1 : Int32 → Mem → Prop, CtI l M_X7_isVertex G [.ref (gA G 327), .int a2] mem Q1 ∧ ∀ (r3 : Int32) (m4 : Mem), Q1 r3 m4 → ((r3 = 0 → (P (-1) m4)) ∧ (¬ r3 = 0 → (∃ Q7 : Int32 → Mem → Prop, CtI l M_X7_isVertex G [.ref (gA G 327), .int a3] m4 Q7 ∧ ∀ (r9 : Int32) (m10 : Mem), Q7 r9 m10 → ((¬ r9 = 0 → (∃ Q13 : Int32 → Mem → Prop, CtI l M_X7_in G [.long ((a4 : Int32).toInt64), .long 1, .long 99] m10 Q13 ∧ ∀ (r15 : Int32) (m16 : Mem), Q13 r15 m16 → ((¬ r15 = 0 → (∃ Q19 : Int32 → Mem → Prop, CtI l M_X7_at G [.int a2, .int a3] m16 Q19 ∧ ∀ (r21 : Int32) (m22 : Mem), Q19 r21 m22 → (vp_in r21 156 ∧ ((¬ (m22 r r21.toNatClampNeg) = 0 → (P 0 m22)) ∧ ((m22 r r21.toNatClampNeg) = 0 → (P (-3) m22)))))) ∧ (r15 = 0 → (P (-2) m16))))) ∧ (r9 = 0 → (P (-1) m10))))))) :
    XI l M_X7_edgeError G P mem 0 [(0, .ref (gA G 327)), (1, .ref (gA G r)), (2, .int a2), (3, .int a3), (4, .int a4)] [] := by
  refine x_aload_n (pc := 0) dX7_edgeError_0 0 rfl rfl ?_
  refine x_iload_n (pc := 1) dX7_edgeError_1 2 rfl rfl ?_
  obtain ⟨Q1, hc2, h⟩ := h
  refine x_callVI (pc := 2) 327 hc2 ok_X7_isVertex dX7_edgeError_2 tb_848 ⟨⟨rfl, rfl⟩, ⟨by decide, by decide⟩, by decide, by decide⟩ (mK hG (by decide)) (mc_327 hG _) rfl (As := [.int a2]) rfl rfl (Nat.le_of_ble_eq_true rfl) (fun r3 m4 q5 => ?_)
  have h := h r3 m4 q5
  refine x_if_eq (pc := 5) (tgt := 16) dX7_edgeError_5 (by decide) (fun c6 => ?_) (fun c6 => ?_)
  · have h := h.1 c6
    refine x_iconst (pc := 16) (v := (-1)) dX7_edgeError_16 (by decide) ?_
    exact x_endI (pc := 17) dX7_edgeError_17 rfl h
  · have h := h.2 c6
    refine x_aload_n (pc := 8) dX7_edgeError_8 0 rfl rfl ?_
    refine x_iload_n (pc := 9) dX7_edgeError_9 3 rfl rfl ?_
    obtain ⟨Q7, hc8, h⟩ := h
    refine x_callVI (pc := 10) 327 hc8 ok_X7_isVertex dX7_edgeError_10 tb_848 ⟨⟨rfl, rfl⟩, ⟨by decide, by decide⟩, by decide, by decide⟩ (mK hG (by decide)) (mc_327 hG _) rfl (As := [.int a3]) rfl rfl (Nat.le_of_ble_eq_true rfl) (fun r9 m10 q11 => ?_)
    have h := h r9 m10 q11
    refine x_if_ne (pc := 13) (tgt := 18) dX7_edgeError_13 (by decide) (fun c12 => ?_) (fun c12 => ?_)
    · have h := h.1 c12
      refine x_iload (pc := 18) dX7_edgeError_18 4 rfl ?_
      refine x_i2l (pc := 20) dX7_edgeError_20 ?_
      refine x_lconst (pc := 21) (v := 1) dX7_edgeError_21 rfl ?_
      refine x_ldc2 (pc := 22) (v := 99) dX7_edgeError_22 tb_868 ?_
      obtain ⟨Q13, hc14, h⟩ := h
      refine x_callSI (pc := 25) hc14 ok_X7_in dX7_edgeError_25 tb_789 ⟨⟨rfl, rfl⟩, ⟨by decide, by decide⟩, by decide, by decide⟩ rfl rfl (Nat.le_of_ble_eq_true rfl) (fun r15 m16 q17 => ?_)
      have h := h r15 m16 q17
      refine x_if_ne (pc := 28) (tgt := 34) dX7_edgeError_28 (by decide) (fun c18 => ?_) (fun c18 => ?_)
      · have h := h.1 c18
        refine x_aload_n (pc := 34) dX7_edgeError_34 1 rfl rfl ?_
        refine x_iload_n (pc := 35) dX7_edgeError_35 2 rfl rfl ?_
        refine x_iload_n (pc := 36) dX7_edgeError_36 3 rfl rfl ?_
        obtain ⟨Q19, hc20, h⟩ := h
        refine x_callSI (pc := 37) hc20 ok_X7_at dX7_edgeError_37 tb_828 ⟨⟨rfl, rfl⟩, ⟨by decide, by decide⟩, by decide, by decide⟩ rfl rfl (Nat.le_of_ble_eq_true rfl) (fun r21 m22 q23 => ?_)
        have h := h r21 m22 q23
        have n24 := h.1
        refine x_iald (pc := 40) r dX7_edgeError_40 (Ra_K hr) (Ra_c hr _) n24 ?_
        have h := h.2
        refine x_if_ne (pc := 41) (tgt := 49) dX7_edgeError_41 (by decide) (fun c25 => ?_) (fun c25 => ?_)
        · have h := h.1 c25
          refine x_iconst (pc := 49) (v := 0) dX7_edgeError_49 (by decide) ?_
          exact x_endI (pc := 50) dX7_edgeError_50 rfl h
        · have h := h.2 c25
          refine x_bipush (pc := 44) (v := (-3)) dX7_edgeError_44 (by decide) ?_
          refine x_goto (pc := 46) (tgt := 50) dX7_edgeError_46 (by decide) ?_
          exact x_endI (pc := 50) dX7_edgeError_50 rfl h
      · have h := h.2 c18
        refine x_bipush (pc := 31) (v := (-2)) dX7_edgeError_31 (by decide) ?_
        exact x_endI (pc := 33) dX7_edgeError_33 rfl h
    · have h := h.2 c12
      refine x_iconst (pc := 16) (v := (-1)) dX7_edgeError_16 (by decide) ?_
      exact x_endI (pc := 17) dX7_edgeError_17 rfl h
set_option maxRecDepth 100000 in
set_option maxHeartbeats 4000000 in
theorem t_X7_cut_0 {l : Launch} {G : Gx} {P : Int32 → Mem → Prop} (hG : Mn G) (a1 : Int32) (a2 : Int32) (mem : Mem)
    (h : ∃ Q1 : Int32 → Mem → Prop, CtI l M_X7_edgeError G [.ref (gA G 327), .ref (gA G 329), .int a1, .int a2, .int 1] mem Q1 ∧ ∀ (r3 : Int32) (m4 : Mem), Q1 r3 m4 → ((r3 = 0 → (∃ Q7 : Mem → Prop, CtV l M_X7_note G [.ref (gA G 327)] m4 Q7 ∧ ∀ m10 : Mem, Q7 m10 → (∃ Q12 : Int32 → Mem → Prop, CtI l M_X7_at G [.int a1, .int a2] m10 Q12 ∧ ∀ (r14 : Int32) (m15 : Mem), Q12 r14 m15 → (vp_in r14 156 ∧ (∃ Q18 : Mem → Prop, CtV l M_X7_join G [.ref (gA G 329), .int a1, .int a2, .int 0] m15 Q18 ∧ ∀ m21 : Mem, Q18 m21 → (P (m15 329 r14.toNatClampNeg) m21)))))) ∧ (¬ r3 = 0 → (P r3 m4)))) :
    XI l M_X7_cut G P mem 0 [(0, .ref (gA G 327)), (1, .int a1), (2, .int a2)] [] := by
  refine x_aload_n (pc := 0) dX7_cut_0 0 rfl rfl ?_
  refine x_aload_n (pc := 1) dX7_cut_1 0 rfl rfl ?_
  refine x_get (pc := 2) 327 5 dX7_cut_2 (mK hG (by decide)) (mc_327 hG _) rfl inX7 (by decide) tb_716 rfl rfl ?_
  refine x_iload_n (pc := 5) dX7_cut_5 1 rfl rfl ?_
  refine x_iload_n (pc := 6) dX7_cut_6 2 rfl rfl ?_
  refine x_iconst (pc := 7) (v := 1) dX7_cut_7 (by decide) ?_
  obtain ⟨Q1, hc2, h⟩ := h
  refine x_callVI (pc := 8) 327 hc2 ok_X7_edgeError dX7_cut_8 tb_877 ⟨⟨rfl, rfl⟩, ⟨by decide, by decide⟩, by decide, by decide⟩ (mK hG (by decide)) (mc_327 hG _) rfl (As := [.ref (gA G 329), .int a1, .int a2, .int 1]) rfl rfl (Nat.le_of_ble_eq_true rfl) (fun r3 m4 q5 => ?_)
  have h := h r3 m4 q5
  refine x_istore_n (pc := 11) dX7_cut_11 rfl (by decide) rfl ?_
  refine x_iload_n (pc := 12) dX7_cut_12 0 rfl rfl ?_
  refine x_if_eq (pc := 13) (tgt := 18) dX7_cut_13 (by decide) (fun c6 => ?_) (fun c6 => ?_)
  · have h := h.1 c6
    refine x_aload_n (pc := 18) dX7_cut_18 1 rfl rfl ?_
    obtain ⟨Q7, hc8, h⟩ := h
    refine x_callVV (pc := 19) 327 hc8 ok_X7_note dX7_cut_19 tb_869 ⟨⟨rfl, rfl⟩, ⟨by decide, by decide⟩, by decide, by decide⟩ (mK hG (by decide)) (mc_327 hG _) rfl (As := []) rfl rfl (Nat.le_of_ble_eq_true rfl) (fun m10 q11 => ?_)
    have h := h m10 q11
    refine x_aload_n (pc := 22) dX7_cut_22 1 rfl rfl ?_
    refine x_get (pc := 23) 327 5 dX7_cut_23 (mK hG (by decide)) (mc_327 hG _) rfl inX7 (by decide) tb_716 rfl rfl ?_
    refine x_iload_n (pc := 26) dX7_cut_26 2 rfl rfl ?_
    refine x_iload_n (pc := 27) dX7_cut_27 3 rfl rfl ?_
    obtain ⟨Q12, hc13, h⟩ := h
    refine x_callSI (pc := 28) hc13 ok_X7_at dX7_cut_28 tb_828 ⟨⟨rfl, rfl⟩, ⟨by decide, by decide⟩, by decide, by decide⟩ rfl rfl (Nat.le_of_ble_eq_true rfl) (fun r14 m15 q16 => ?_)
    have h := h r14 m15 q16
    have n17 := h.1
    refine x_iald (pc := 31) 329 dX7_cut_31 (mK hG (by decide)) (mc_329 hG _) n17 ?_
    have h := h.2
    refine x_istore (pc := 32) dX7_cut_32 (by decide) rfl ?_
    refine x_aload_n (pc := 34) dX7_cut_34 2 rfl rfl ?_
    refine x_get (pc := 35) 327 5 dX7_cut_35 (mK hG (by decide)) (mc_327 hG _) rfl inX7 (by decide) tb_716 rfl rfl ?_
    refine x_iload_n (pc := 38) dX7_cut_38 3 rfl rfl ?_
    refine x_iload_n (pc := 39) dX7_cut_39 4 rfl rfl ?_
    refine x_iconst (pc := 40) (v := 0) dX7_cut_40 (by decide) ?_
    obtain ⟨Q18, hc19, h⟩ := h
    refine x_callSV (pc := 41) hc19 ok_X7_join dX7_cut_41 tb_831 ⟨⟨rfl, rfl⟩, ⟨by decide, by decide⟩, by decide, by decide⟩ rfl rfl (Nat.le_of_ble_eq_true rfl) (fun m21 q22 => ?_)
    have h := h m21 q22
    refine x_iload (pc := 44) dX7_cut_44 0 rfl ?_
    exact x_endI (pc := 46) dX7_cut_46 rfl h
  · have h := h.2 c6
    refine x_iload_n (pc := 16) dX7_cut_16 0 rfl rfl ?_
    exact x_endI (pc := 17) dX7_cut_17 rfl h
set_option maxRecDepth 100000 in
set_option maxHeartbeats 4000000 in
theorem t_X7_setEdgeWeight_0 {l : Launch} {G : Gx} {P : Int32 → Mem → Prop} (hG : Mn G) (a1 : Int32) (a2 : Int32) (a3 : Int32) (mem : Mem)
    (h : ∃ Q1 : Int32 → Mem → Prop, CtI l M_X7_edgeError G [.ref (gA G 327), .ref (gA G 329), .int a1, .int a2, .int a3] mem Q1 ∧ ∀ (r3 : Int32) (m4 : Mem), Q1 r3 m4 → ((r3 = 0 → (∃ Q7 : Mem → Prop, CtV l M_X7_note G [.ref (gA G 327)] m4 Q7 ∧ ∀ m10 : Mem, Q7 m10 → (∃ Q12 : Int32 → Mem → Prop, CtI l M_X7_at G [.int a1, .int a2] m10 Q12 ∧ ∀ (r14 : Int32) (m15 : Mem), Q12 r14 m15 → (vp_in r14 156 ∧ (∃ Q18 : Mem → Prop, CtV l M_X7_join G [.ref (gA G 329), .int a1, .int a2, .int a3] m15 Q18 ∧ ∀ m21 : Mem, Q18 m21 → (P (m15 329 r14.toNatClampNeg) m21)))))) ∧ (¬ r3 = 0 → (P r3 m4)))) :
    XI l M_X7_setEdgeWeight G P mem 0 [(0, .ref (gA G 327)), (1, .int a1), (2, .int a2), (3, .int a3)] [] := by
  refine x_aload_n (pc := 0) dX7_setEdgeWeight_0 0 rfl rfl ?_
  refine x_aload_n (pc := 1) dX7_setEdgeWeight_1 0 rfl rfl ?_
  refine x_get (pc := 2) 327 5 dX7_setEdgeWeight_2 (mK hG (by decide)) (mc_327 hG _) rfl inX7 (by decide) tb_716 rfl rfl ?_
  refine x_iload_n (pc := 5) dX7_setEdgeWeight_5 1 rfl rfl ?_
  refine x_iload_n (pc := 6) dX7_setEdgeWeight_6 2 rfl rfl ?_
  refine x_iload_n (pc := 7) dX7_setEdgeWeight_7 3 rfl rfl ?_
  obtain ⟨Q1, hc2, h⟩ := h
  refine x_callVI (pc := 8) 327 hc2 ok_X7_edgeError dX7_setEdgeWeight_8 tb_877 ⟨⟨rfl, rfl⟩, ⟨by decide, by decide⟩, by decide, by decide⟩ (mK hG (by decide)) (mc_327 hG _) rfl (As := [.ref (gA G 329), .int a1, .int a2, .int a3]) rfl rfl (Nat.le_of_ble_eq_true rfl) (fun r3 m4 q5 => ?_)
  have h := h r3 m4 q5
  refine x_istore (pc := 11) dX7_setEdgeWeight_11 (by decide) rfl ?_
  refine x_iload (pc := 13) dX7_setEdgeWeight_13 0 rfl ?_
  refine x_if_eq (pc := 15) (tgt := 21) dX7_setEdgeWeight_15 (by decide) (fun c6 => ?_) (fun c6 => ?_)
  · have h := h.1 c6
    refine x_aload_n (pc := 21) dX7_setEdgeWeight_21 1 rfl rfl ?_
    obtain ⟨Q7, hc8, h⟩ := h
    refine x_callVV (pc := 22) 327 hc8 ok_X7_note dX7_setEdgeWeight_22 tb_869 ⟨⟨rfl, rfl⟩, ⟨by decide, by decide⟩, by decide, by decide⟩ (mK hG (by decide)) (mc_327 hG _) rfl (As := []) rfl rfl (Nat.le_of_ble_eq_true rfl) (fun m10 q11 => ?_)
    have h := h m10 q11
    refine x_aload_n (pc := 25) dX7_setEdgeWeight_25 1 rfl rfl ?_
    refine x_get (pc := 26) 327 5 dX7_setEdgeWeight_26 (mK hG (by decide)) (mc_327 hG _) rfl inX7 (by decide) tb_716 rfl rfl ?_
    refine x_iload_n (pc := 29) dX7_setEdgeWeight_29 2 rfl rfl ?_
    refine x_iload_n (pc := 30) dX7_setEdgeWeight_30 3 rfl rfl ?_
    obtain ⟨Q12, hc13, h⟩ := h
    refine x_callSI (pc := 31) hc13 ok_X7_at dX7_setEdgeWeight_31 tb_828 ⟨⟨rfl, rfl⟩, ⟨by decide, by decide⟩, by decide, by decide⟩ rfl rfl (Nat.le_of_ble_eq_true rfl) (fun r14 m15 q16 => ?_)
    have h := h r14 m15 q16
    have n17 := h.1
    refine x_iald (pc := 34) 329 dX7_setEdgeWeight_34 (mK hG (by decide)) (mc_329 hG _) n17 ?_
    have h := h.2
    refine x_istore (pc := 35) dX7_setEdgeWeight_35 (by decide) rfl ?_
    refine x_aload_n (pc := 37) dX7_setEdgeWeight_37 2 rfl rfl ?_
    refine x_get (pc := 38) 327 5 dX7_setEdgeWeight_38 (mK hG (by decide)) (mc_327 hG _) rfl inX7 (by decide) tb_716 rfl rfl ?_
    refine x_iload_n (pc := 41) dX7_setEdgeWeight_41 3 rfl rfl ?_
    refine x_iload_n (pc := 42) dX7_setEdgeWeight_42 4 rfl rfl ?_
    refine x_iload_n (pc := 43) dX7_setEdgeWeight_43 5 rfl rfl ?_
    obtain ⟨Q18, hc19, h⟩ := h
    refine x_callSV (pc := 44) hc19 ok_X7_join dX7_setEdgeWeight_44 tb_831 ⟨⟨rfl, rfl⟩, ⟨by decide, by decide⟩, by decide, by decide⟩ rfl rfl (Nat.le_of_ble_eq_true rfl) (fun m21 q22 => ?_)
    have h := h m21 q22
    refine x_iload (pc := 47) dX7_setEdgeWeight_47 0 rfl ?_
    exact x_endI (pc := 49) dX7_setEdgeWeight_49 rfl h
  · have h := h.2 c6
    refine x_iload (pc := 18) dX7_setEdgeWeight_18 0 rfl ?_
    exact x_endI (pc := 20) dX7_setEdgeWeight_20 rfl h
set_option maxRecDepth 100000 in
set_option maxHeartbeats 4000000 in
theorem t_X7_setVertexWeight_0 {l : Launch} {G : Gx} {P : Int32 → Mem → Prop} (hG : Mn G) (a1 : Int32) (a2 : Int32) (mem : Mem)
    (h : ∃ Q1 : Int32 → Mem → Prop, CtI l M_X7_isVertex G [.ref (gA G 327), .int a1] mem Q1 ∧ ∀ (r3 : Int32) (m4 : Mem), Q1 r3 m4 → ((¬ r3 = 0 → (∃ Q7 : Int32 → Mem → Prop, CtI l M_X7_in G [.long ((a2 : Int32).toInt64), .long 0, .long 99] m4 Q7 ∧ ∀ (r9 : Int32) (m10 : Mem), Q7 r9 m10 → ((¬ r9 = 0 → (∃ Q13 : Mem → Prop, CtV l M_X7_note G [.ref (gA G 327)] m10 Q13 ∧ ∀ m16 : Mem, Q13 m16 → (vp_in a1 156 ∧ (vp_in a1 156 ∧ (P (m16 329 a1.toNatClampNeg) (wr m16 329 a1.toNatClampNeg a2)))))) ∧ (r9 = 0 → (P (-2) m10))))) ∧ (r3 = 0 → (P (-1) m4)))) :
    XI l M_X7_setVertexWeight G P mem 0 [(0, .ref (gA G 327)), (1, .int a1), (2, .int a2)] [] := by
  refine x_aload_n (pc := 0) dX7_setVertexWeight_0 0 rfl rfl ?_
  refine x_iload_n (pc := 1) dX7_setVertexWeight_1 1 rfl rfl ?_
  obtain ⟨Q1, hc2, h⟩ := h
  refine x_callVI (pc := 2) 327 hc2 ok_X7_isVertex dX7_setVertexWeight_2 tb_848 ⟨⟨rfl, rfl⟩, ⟨by decide, by decide⟩, by decide, by decide⟩ (mK hG (by decide)) (mc_327 hG _) rfl (As := [.int a1]) rfl rfl (Nat.le_of_ble_eq_true rfl) (fun r3 m4 q5 => ?_)
  have h := h r3 m4 q5
  refine x_if_ne (pc := 5) (tgt := 10) dX7_setVertexWeight_5 (by decide) (fun c6 => ?_) (fun c6 => ?_)
  · have h := h.1 c6
    refine x_iload_n (pc := 10) dX7_setVertexWeight_10 2 rfl rfl ?_
    refine x_i2l (pc := 11) dX7_setVertexWeight_11 ?_
    refine x_lconst (pc := 12) (v := 0) dX7_setVertexWeight_12 rfl ?_
    refine x_ldc2 (pc := 13) (v := 99) dX7_setVertexWeight_13 tb_868 ?_
    obtain ⟨Q7, hc8, h⟩ := h
    refine x_callSI (pc := 16) hc8 ok_X7_in dX7_setVertexWeight_16 tb_789 ⟨⟨rfl, rfl⟩, ⟨by decide, by decide⟩, by decide, by decide⟩ rfl rfl (Nat.le_of_ble_eq_true rfl) (fun r9 m10 q11 => ?_)
    have h := h r9 m10 q11
    refine x_if_ne (pc := 19) (tgt := 25) dX7_setVertexWeight_19 (by decide) (fun c12 => ?_) (fun c12 => ?_)
    · have h := h.1 c12
      refine x_aload_n (pc := 25) dX7_setVertexWeight_25 0 rfl rfl ?_
      obtain ⟨Q13, hc14, h⟩ := h
      refine x_callVV (pc := 26) 327 hc14 ok_X7_note dX7_setVertexWeight_26 tb_869 ⟨⟨rfl, rfl⟩, ⟨by decide, by decide⟩, by decide, by decide⟩ (mK hG (by decide)) (mc_327 hG _) rfl (As := []) rfl rfl (Nat.le_of_ble_eq_true rfl) (fun m16 q17 => ?_)
      have h := h m16 q17
      refine x_aload_n (pc := 29) dX7_setVertexWeight_29 0 rfl rfl ?_
      refine x_get (pc := 30) 327 5 dX7_setVertexWeight_30 (mK hG (by decide)) (mc_327 hG _) rfl inX7 (by decide) tb_716 rfl rfl ?_
      refine x_iload_n (pc := 33) dX7_setVertexWeight_33 1 rfl rfl ?_
      have n18 := h.1
      refine x_iald (pc := 34) 329 dX7_setVertexWeight_34 (mK hG (by decide)) (mc_329 hG _) n18 ?_
      have h := h.2
      refine x_istore_n (pc := 35) dX7_setVertexWeight_35 rfl (by decide) rfl ?_
      refine x_aload_n (pc := 36) dX7_setVertexWeight_36 1 rfl rfl ?_
      refine x_get (pc := 37) 327 5 dX7_setVertexWeight_37 (mK hG (by decide)) (mc_327 hG _) rfl inX7 (by decide) tb_716 rfl rfl ?_
      refine x_iload_n (pc := 40) dX7_setVertexWeight_40 2 rfl rfl ?_
      refine x_iload_n (pc := 41) dX7_setVertexWeight_41 3 rfl rfl ?_
      have n19 := h.1
      have h := h.2
      refine x_iast (pc := 42) 329 dX7_setVertexWeight_42 (mK hG (by decide)) (mc_329 hG) n19 ?_
      refine x_iload_n (pc := 43) dX7_setVertexWeight_43 0 rfl rfl ?_
      exact x_endI (pc := 44) dX7_setVertexWeight_44 rfl h
    · have h := h.2 c12
      refine x_bipush (pc := 22) (v := (-2)) dX7_setVertexWeight_22 (by decide) ?_
      exact x_endI (pc := 24) dX7_setVertexWeight_24 rfl h
  · have h := h.2 c6
    refine x_iconst (pc := 8) (v := (-1)) dX7_setVertexWeight_8 (by decide) ?_
    exact x_endI (pc := 9) dX7_setVertexWeight_9 rfl h
set_option maxRecDepth 100000 in
set_option maxHeartbeats 4000000 in
theorem t_X7_undo_0 {l : Launch} {G : Gx} {P : Int32 → Mem → Prop} (hG : Mn G)  (mem : Mem)
    (h : (¬ (mem 327 9) = 0 → (XI l M_X7_undo G P (wr (wr mem 327 9 ((mem 327 9) - 1)) 327 10 (((((wr mem 327 9 ((mem 327 9) - 1)) 327 10) + 14) - 1) - ((((wr mem 327 9 ((mem 327 9) - 1)) 327 10) + 14) - 1) / 14 * 14)) 38 [(0, .ref (gA G 327)), (1, .int 0)] [])) ∧ ((mem 327 9) = 0 → (P (-3) mem))) :
    XI l M_X7_undo G P mem 0 [(0, .ref (gA G 327))] [] := by
  refine x_aload_n (pc := 0) dX7_undo_0 0 rfl rfl ?_
  refine x_get (pc := 1) 327 9 dX7_undo_1 (mK hG (by decide)) (mc_327 hG _) rfl inX7 (by decide) tb_720 rfl rfl ?_
  refine x_if_ne (pc := 4) (tgt := 10) dX7_undo_4 (by decide) (fun c1 => ?_) (fun c1 => ?_)
  · have h := h.1 c1
    refine x_aload_n (pc := 10) dX7_undo_10 0 rfl rfl ?_
    refine x_dup (pc := 11) dX7_undo_11 rfl ?_
    refine x_get (pc := 12) 327 9 dX7_undo_12 (mK hG (by decide)) (mc_327 hG _) rfl inX7 (by decide) tb_720 rfl rfl ?_
    refine x_iconst (pc := 15) (v := 1) dX7_undo_15 (by decide) ?_
    refine x_isub (pc := 16) dX7_undo_16 ?_
    refine x_put (pc := 17) 327 9 dX7_undo_17 (mK hG (by decide)) (mc_327 hG) rfl inX7 tyX7 tyX7_ok nmX7 (by decide) tb_720 rfl rfl (by decide +kernel) (fun _ => Nat.le_of_ble_eq_true rfl) (fun _ _ => rfl) ?_
    refine x_aload_n (pc := 20) dX7_undo_20 0 rfl rfl ?_
    refine x_aload_n (pc := 21) dX7_undo_21 0 rfl rfl ?_
    refine x_get (pc := 22) 327 10 dX7_undo_22 (mK hG (by decide)) (mc_327 hG _) rfl inX7 (by decide) tb_721 rfl rfl ?_
    refine x_bipush (pc := 25) (v := 14) dX7_undo_25 (by decide) ?_
    refine x_iadd (pc := 27) dX7_undo_27 ?_
    refine x_iconst (pc := 28) (v := 1) dX7_undo_28 (by decide) ?_
    refine x_isub (pc := 29) dX7_undo_29 ?_
    refine x_bipush (pc := 30) (v := 14) dX7_undo_30 (by decide) ?_
    refine x_irem (pc := 32) dX7_undo_32 (by decide) ?_
    refine x_put (pc := 33) 327 10 dX7_undo_33 (mK hG (by decide)) (mc_327 hG) rfl inX7 tyX7 tyX7_ok nmX7 (by decide) tb_721 rfl rfl (by decide +kernel) (fun _ => Nat.le_of_ble_eq_true rfl) (fun _ _ => rfl) ?_
    refine x_iconst (pc := 36) (v := 0) dX7_undo_36 (by decide) ?_
    refine x_istore_n (pc := 37) dX7_undo_37 rfl (by decide) rfl ?_
    exact x_sub [1, 0] rfl h
  · have h := h.2 c1
    refine x_bipush (pc := 7) (v := (-3)) dX7_undo_7 (by decide) ?_
    exact x_endI (pc := 9) dX7_undo_9 rfl h
set_option maxRecDepth 100000 in
set_option maxHeartbeats 4000000 in
theorem t_X7_undo_38 {l : Launch} {G : Gx} {P : Int32 → Mem → Prop} (hG : Mn G) (a1 : Int32) (mem : Mem)
    (h : (156 ≤ a1 → (P (mem 327 9) mem)) ∧ (¬ 156 ≤ a1 → (vp_in ((156 * (mem 327 10)) + a1) 2184 ∧ (vp_in a1 156 ∧ (XI l M_X7_undo G P (wr mem 329 a1.toNatClampNeg (mem 332 ((156 * (mem 327 10)) + a1).toNatClampNeg)) 38 [(0, .ref (gA G 327)), (1, .int (a1 + 1))] []))))) :
    XI l M_X7_undo G P mem 38 [(0, .ref (gA G 327)), (1, .int a1)] [] := by
  refine x_iload_n (pc := 38) dX7_undo_38 1 rfl rfl ?_
  refine x_sipush (pc := 39) (v := 156) dX7_undo_39 (by decide) ?_
  refine x_icmp_ge (pc := 42) (tgt := 72) dX7_undo_42 (by decide) (fun c1 => ?_) (fun c1 => ?_)
  · have h := h.1 c1
    refine x_aload_n (pc := 72) dX7_undo_72 0 rfl rfl ?_
    refine x_get (pc := 73) 327 9 dX7_undo_73 (mK hG (by decide)) (mc_327 hG _) rfl inX7 (by decide) tb_720 rfl rfl ?_
    exact x_endI (pc := 76) dX7_undo_76 rfl h
  · have h := h.2 c1
    refine x_aload_n (pc := 45) dX7_undo_45 0 rfl rfl ?_
    refine x_get (pc := 46) 327 5 dX7_undo_46 (mK hG (by decide)) (mc_327 hG _) rfl inX7 (by decide) tb_716 rfl rfl ?_
    refine x_iload_n (pc := 49) dX7_undo_49 1 rfl rfl ?_
    refine x_aload_n (pc := 50) dX7_undo_50 0 rfl rfl ?_
    refine x_get (pc := 51) 327 8 dX7_undo_51 (mK hG (by decide)) (mc_327 hG _) rfl inX7 (by decide) tb_719 rfl rfl ?_
    refine x_sipush (pc := 54) (v := 156) dX7_undo_54 (by decide) ?_
    refine x_aload_n (pc := 57) dX7_undo_57 0 rfl rfl ?_
    refine x_get (pc := 58) 327 10 dX7_undo_58 (mK hG (by decide)) (mc_327 hG _) rfl inX7 (by decide) tb_721 rfl rfl ?_
    refine x_imul (pc := 61) dX7_undo_61 ?_
    refine x_iload_n (pc := 62) dX7_undo_62 1 rfl rfl ?_
    refine x_iadd (pc := 63) dX7_undo_63 ?_
    have n2 := h.1
    refine x_iald (pc := 64) 332 dX7_undo_64 (mK hG (by decide)) (mc_332 hG _) n2 ?_
    have h := h.2
    have n3 := h.1
    have h := h.2
    refine x_iast (pc := 65) 329 dX7_undo_65 (mK hG (by decide)) (mc_329 hG) n3 ?_
    refine x_iinc (pc := 66) (v := (a1 + 1)) dX7_undo_66 (k := 1) rfl rfl (by decide) rfl ?_
    refine x_goto (pc := 69) (tgt := 38) dX7_undo_69 (by decide) ?_
    exact x_sub [1, 0] rfl h
set_option maxRecDepth 100000 in
set_option maxHeartbeats 4000000 in
theorem t_X7_distance_0 {l : Launch} {G : Gx} {P : Int32 → Mem → Prop} (hG : Mn G) (a1 : Int32) (a2 : Int32) (mem : Mem)
    (h : ∃ Q1 : Int32 → Mem → Prop, CtI l M_X7_isVertex G [.ref (gA G 327), .int a1] mem Q1 ∧ ∀ (r3 : Int32) (m4 : Mem), Q1 r3 m4 → ((r3 = 0 → (P (-1) m4)) ∧ (¬ r3 = 0 → (∃ Q7 : Int32 → Mem → Prop, CtI l M_X7_isVertex G [.ref (gA G 327), .int a2] m4 Q7 ∧ ∀ (r9 : Int32) (m10 : Mem), Q7 r9 m10 → ((r9 = 0 → (P (-1) m10)) ∧ (¬ r9 = 0 → (∃ Q13 : Int32 → Mem → Prop, CtI l M_X7_farOf G [.ref (gA G 327), .ref (gA G 329), .int a1, .int a2] m10 Q13 ∧ ∀ (r15 : Int32) (m16 : Mem), Q13 r15 m16 → (P r15 m16)))))))) :
    XI l M_X7_distance G P mem 0 [(0, .ref (gA G 327)), (1, .int a1), (2, .int a2)] [] := by
  refine x_aload_n (pc := 0) dX7_distance_0 0 rfl rfl ?_
  refine x_iload_n (pc := 1) dX7_distance_1 1 rfl rfl ?_
  obtain ⟨Q1, hc2, h⟩ := h
  refine x_callVI (pc := 2) 327 hc2 ok_X7_isVertex dX7_distance_2 tb_848 ⟨⟨rfl, rfl⟩, ⟨by decide, by decide⟩, by decide, by decide⟩ (mK hG (by decide)) (mc_327 hG _) rfl (As := [.int a1]) rfl rfl (Nat.le_of_ble_eq_true rfl) (fun r3 m4 q5 => ?_)
  have h := h r3 m4 q5
  refine x_if_eq (pc := 5) (tgt := 29) dX7_distance_5 (by decide) (fun c6 => ?_) (fun c6 => ?_)
  · have h := h.1 c6
    refine x_iconst (pc := 29) (v := (-1)) dX7_distance_29 (by decide) ?_
    exact x_endI (pc := 30) dX7_distance_30 rfl h
  · have h := h.2 c6
    refine x_aload_n (pc := 8) dX7_distance_8 0 rfl rfl ?_
    refine x_iload_n (pc := 9) dX7_distance_9 2 rfl rfl ?_
    obtain ⟨Q7, hc8, h⟩ := h
    refine x_callVI (pc := 10) 327 hc8 ok_X7_isVertex dX7_distance_10 tb_848 ⟨⟨rfl, rfl⟩, ⟨by decide, by decide⟩, by decide, by decide⟩ (mK hG (by decide)) (mc_327 hG _) rfl (As := [.int a2]) rfl rfl (Nat.le_of_ble_eq_true rfl) (fun r9 m10 q11 => ?_)
    have h := h r9 m10 q11
    refine x_if_eq (pc := 13) (tgt := 29) dX7_distance_13 (by decide) (fun c12 => ?_) (fun c12 => ?_)
    · have h := h.1 c12
      refine x_iconst (pc := 29) (v := (-1)) dX7_distance_29 (by decide) ?_
      exact x_endI (pc := 30) dX7_distance_30 rfl h
    · have h := h.2 c12
      refine x_aload_n (pc := 16) dX7_distance_16 0 rfl rfl ?_
      refine x_aload_n (pc := 17) dX7_distance_17 0 rfl rfl ?_
      refine x_get (pc := 18) 327 5 dX7_distance_18 (mK hG (by decide)) (mc_327 hG _) rfl inX7 (by decide) tb_716 rfl rfl ?_
      refine x_iload_n (pc := 21) dX7_distance_21 1 rfl rfl ?_
      refine x_iload_n (pc := 22) dX7_distance_22 2 rfl rfl ?_
      obtain ⟨Q13, hc14, h⟩ := h
      refine x_callVI (pc := 23) 327 hc14 ok_X7_farOf dX7_distance_23 tb_820 ⟨⟨rfl, rfl⟩, ⟨by decide, by decide⟩, by decide, by decide⟩ (mK hG (by decide)) (mc_327 hG _) rfl (As := [.ref (gA G 329), .int a1, .int a2]) rfl rfl (Nat.le_of_ble_eq_true rfl) (fun r15 m16 q17 => ?_)
      have h := h r15 m16 q17
      refine x_goto (pc := 26) (tgt := 30) dX7_distance_26 (by decide) ?_
      exact x_endI (pc := 30) dX7_distance_30 rfl h
