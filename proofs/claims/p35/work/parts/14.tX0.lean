set_option maxRecDepth 100000 in
set_option maxHeartbeats 4000000 in
theorem t_X0_contract_0 {l : Launch} {G : Gx} {P : Mem → Prop} (hG : Mn G) {g : Nat} (hg : Fo G g) (a2 : Int32) (mem : Mem)
    (h : ∃ Q1 : Mem → Prop, CtV l M_X0_copyEdges G [.ref (gA G 59), .ref (gA G g)] mem Q1 ∧ ∀ m4 : Mem, Q1 m4 → (∃ Q6 : Mem → Prop, CtV l M_X0_gatherTree G [.ref (gA G 59), .int a2] m4 Q6 ∧ ∀ m9 : Mem, Q6 m9 → (XV l M_X0_contract G P (wr m9 59 2 0) 15 [(0, .ref (gA G 59))] []))) :
    XV l M_X0_contract G P mem 0 [(0, .ref (gA G 59)), (1, .ref (gA G g)), (2, .int a2)] [] := by
  refine x_aload_n (pc := 0) dX0_contract_0 0 rfl rfl ?_
  refine x_aload_n (pc := 1) dX0_contract_1 1 rfl rfl ?_
  obtain ⟨Q1, hc2, h⟩ := h
  refine x_callVV (pc := 2) 59 hc2 ok_X0_copyEdges dX0_contract_2 tb_452 ⟨⟨rfl, rfl⟩, ⟨by decide, by decide⟩, by decide, by decide⟩ (mK hG (by decide)) (mc_59 hG _) rfl (As := [.ref (gA G g)]) rfl rfl (Nat.le_of_ble_eq_true rfl) (fun m4 q5 => ?_)
  have h := h m4 q5
  refine x_aload_n (pc := 5) dX0_contract_5 0 rfl rfl ?_
  refine x_iload_n (pc := 6) dX0_contract_6 2 rfl rfl ?_
  obtain ⟨Q6, hc7, h⟩ := h
  refine x_callVV (pc := 7) 59 hc7 ok_X0_gatherTree dX0_contract_7 tb_458 ⟨⟨rfl, rfl⟩, ⟨by decide, by decide⟩, by decide, by decide⟩ (mK hG (by decide)) (mc_59 hG _) rfl (As := [.int a2]) rfl rfl (Nat.le_of_ble_eq_true rfl) (fun m9 q10 => ?_)
  have h := h m9 q10
  refine x_aload_n (pc := 10) dX0_contract_10 0 rfl rfl ?_
  refine x_iconst (pc := 11) (v := 0) dX0_contract_11 (by decide) ?_
  refine x_put (pc := 12) 59 2 dX0_contract_12 (mK hG (by decide)) (mc_59 hG) rfl inX0 tyX0 tyX0_ok nmX0 (by decide) tb_111 rfl rfl (by decide +kernel) (fun _ => Nat.le_of_ble_eq_true rfl) (fun _ _ => rfl) ?_
  exact x_sub [0] rfl h
set_option maxRecDepth 100000 in
set_option maxHeartbeats 4000000 in
theorem t_X0_contract_15 {l : Launch} {G : Gx} {P : Mem → Prop} (hG : Mn G) {g : Nat} (hg : Fo G g)  (mem : Mem)
    (h : ((mem 59 1) ≤ 1 → (P mem)) ∧ (¬ (mem 59 1) ≤ 1 → ((12 ≤ (mem 59 2) → (P mem)) ∧ (¬ 12 ≤ (mem 59 2) → (∃ Q3 : Mem → Prop, CtV l M_X0_rake G [.ref (gA G 59)] (wr mem 59 2 ((mem 59 2) + 1)) Q3 ∧ ∀ m6 : Mem, Q3 m6 → (∃ Q8 : Mem → Prop, CtV l M_X0_compress G [.ref (gA G 59)] m6 Q8 ∧ ∀ m11 : Mem, Q8 m11 → (XV l M_X0_contract G P m11 15 [(0, .ref (gA G 59))] []))))))) :
    XV l M_X0_contract G P mem 15 [(0, .ref (gA G 59))] [] := by
  refine x_aload_n (pc := 15) dX0_contract_15 0 rfl rfl ?_
  refine x_get (pc := 16) 59 1 dX0_contract_16 (mK hG (by decide)) (mc_59 hG _) rfl inX0 (by decide) tb_110 rfl rfl ?_
  refine x_iconst (pc := 19) (v := 1) dX0_contract_19 (by decide) ?_
  refine x_icmp_le (pc := 20) (tgt := 53) dX0_contract_20 (by decide) (fun c1 => ?_) (fun c1 => ?_)
  · have h := h.1 c1
    exact x_endV (pc := 53) dX0_contract_53 rfl h
  · have h := h.2 c1
    refine x_aload_n (pc := 23) dX0_contract_23 0 rfl rfl ?_
    refine x_get (pc := 24) 59 2 dX0_contract_24 (mK hG (by decide)) (mc_59 hG _) rfl inX0 (by decide) tb_111 rfl rfl ?_
    refine x_bipush (pc := 27) (v := 12) dX0_contract_27 (by decide) ?_
    refine x_icmp_ge (pc := 29) (tgt := 53) dX0_contract_29 (by decide) (fun c2 => ?_) (fun c2 => ?_)
    · have h := h.1 c2
      exact x_endV (pc := 53) dX0_contract_53 rfl h
    · have h := h.2 c2
      refine x_aload_n (pc := 32) dX0_contract_32 0 rfl rfl ?_
      refine x_dup (pc := 33) dX0_contract_33 rfl ?_
      refine x_get (pc := 34) 59 2 dX0_contract_34 (mK hG (by decide)) (mc_59 hG _) rfl inX0 (by decide) tb_111 rfl rfl ?_
      refine x_iconst (pc := 37) (v := 1) dX0_contract_37 (by decide) ?_
      refine x_iadd (pc := 38) dX0_contract_38 ?_
      refine x_put (pc := 39) 59 2 dX0_contract_39 (mK hG (by decide)) (mc_59 hG) rfl inX0 tyX0 tyX0_ok nmX0 (by decide) tb_111 rfl rfl (by decide +kernel) (fun _ => Nat.le_of_ble_eq_true rfl) (fun _ _ => rfl) ?_
      refine x_aload_n (pc := 42) dX0_contract_42 0 rfl rfl ?_
      obtain ⟨Q3, hc4, h⟩ := h
      refine x_callVV (pc := 43) 59 hc4 ok_X0_rake dX0_contract_43 tb_470 ⟨⟨rfl, rfl⟩, ⟨by decide, by decide⟩, by decide, by decide⟩ (mK hG (by decide)) (mc_59 hG _) rfl (As := []) rfl rfl (Nat.le_of_ble_eq_true rfl) (fun m6 q7 => ?_)
      have h := h m6 q7
      refine x_aload_n (pc := 46) dX0_contract_46 0 rfl rfl ?_
      obtain ⟨Q8, hc9, h⟩ := h
      refine x_callVV (pc := 47) 59 hc9 ok_X0_compress dX0_contract_47 tb_486 ⟨⟨rfl, rfl⟩, ⟨by decide, by decide⟩, by decide, by decide⟩ (mK hG (by decide)) (mc_59 hG _) rfl (As := []) rfl rfl (Nat.le_of_ble_eq_true rfl) (fun m11 q12 => ?_)
      have h := h m11 q12
      refine x_goto (pc := 50) (tgt := 15) dX0_contract_50 (by decide) ?_
      exact x_sub [0] rfl h
set_option maxRecDepth 100000 in
set_option maxHeartbeats 4000000 in
theorem t_X0_roundCount_0 {l : Launch} {G : Gx} {P : Int32 → Mem → Prop} (hG : Mn G)  (mem : Mem)
    (h : P (mem 59 2) mem) :
    XI l M_X0_roundCount G P mem 0 [(0, .ref (gA G 59))] [] := by
  refine x_aload_n (pc := 0) dX0_roundCount_0 0 rfl rfl ?_
  refine x_get (pc := 1) 59 2 dX0_roundCount_1 (mK hG (by decide)) (mc_59 hG _) rfl inX0 (by decide) tb_111 rfl rfl ?_
  exact x_endI (pc := 4) dX0_roundCount_4 rfl h
set_option maxRecDepth 100000 in
set_option maxHeartbeats 4000000 in
theorem t_X0_roundOf_0 {l : Launch} {G : Gx} {P : Int32 → Mem → Prop} (hG : Mn G) (a1 : Int32) (mem : Mem)
    (h : ∃ Q1 : Int32 → Mem → Prop, CtI l M_X0_isVertex G [.ref (gA G 59), .int a1] mem Q1 ∧ ∀ (r3 : Int32) (m4 : Mem), Q1 r3 m4 → ((r3 = 0 → (P (-9) m4)) ∧ (¬ r3 = 0 → (vp_in a1 12 ∧ (P (m4 62 a1.toNatClampNeg) m4))))) :
    XI l M_X0_roundOf G P mem 0 [(0, .ref (gA G 59)), (1, .int a1)] [] := by
  refine x_aload_n (pc := 0) dX0_roundOf_0 0 rfl rfl ?_
  refine x_iload_n (pc := 1) dX0_roundOf_1 1 rfl rfl ?_
  obtain ⟨Q1, hc2, h⟩ := h
  refine x_callVI (pc := 2) 59 hc2 ok_X0_isVertex dX0_roundOf_2 tb_462 ⟨⟨rfl, rfl⟩, ⟨by decide, by decide⟩, by decide, by decide⟩ (mK hG (by decide)) (mc_59 hG _) rfl (As := [.int a1]) rfl rfl (Nat.le_of_ble_eq_true rfl) (fun r3 m4 q5 => ?_)
  have h := h r3 m4 q5
  refine x_if_eq (pc := 5) (tgt := 17) dX0_roundOf_5 (by decide) (fun c6 => ?_) (fun c6 => ?_)
  · have h := h.1 c6
    refine x_bipush (pc := 17) (v := (-9)) dX0_roundOf_17 (by decide) ?_
    exact x_endI (pc := 19) dX0_roundOf_19 rfl h
  · have h := h.2 c6
    refine x_aload_n (pc := 8) dX0_roundOf_8 0 rfl rfl ?_
    refine x_get (pc := 9) 59 5 dX0_roundOf_9 (mK hG (by decide)) (mc_59 hG _) rfl inX0 (by decide) tb_114 rfl rfl ?_
    refine x_iload_n (pc := 12) dX0_roundOf_12 1 rfl rfl ?_
    have n7 := h.1
    refine x_iald (pc := 13) 62 dX0_roundOf_13 (mK hG (by decide)) (mc_62 hG _) n7 ?_
    have h := h.2
    refine x_goto (pc := 14) (tgt := 19) dX0_roundOf_14 (by decide) ?_
    exact x_endI (pc := 19) dX0_roundOf_19 rfl h
set_option maxRecDepth 100000 in
set_option maxHeartbeats 4000000 in
theorem t_X0_lastVertex_0 {l : Launch} {G : Gx} {P : Int32 → Mem → Prop} (hG : Mn G)  (mem : Mem)
    (h : XI l M_X0_lastVertex G P mem 2 [(0, .ref (gA G 59)), (1, .int 0)] []) :
    XI l M_X0_lastVertex G P mem 0 [(0, .ref (gA G 59))] [] := by
  refine x_iconst (pc := 0) (v := 0) dX0_lastVertex_0 (by decide) ?_
  refine x_istore_n (pc := 1) dX0_lastVertex_1 rfl (by decide) rfl ?_
  exact x_sub [1, 0] rfl h
set_option maxRecDepth 100000 in
set_option maxHeartbeats 4000000 in
theorem t_X0_lastVertex_2 {l : Launch} {G : Gx} {P : Int32 → Mem → Prop} (hG : Mn G) (a1 : Int32) (mem : Mem)
    (h : ((mem 59 0) ≤ a1 → (P (-9) mem)) ∧ (¬ (mem 59 0) ≤ a1 → (vp_in a1 12 ∧ (((mem 60 a1.toNatClampNeg) = 0 → (XI l M_X0_lastVertex G P mem 2 [(0, .ref (gA G 59)), (1, .int (a1 + 1))] [])) ∧ (¬ (mem 60 a1.toNatClampNeg) = 0 → (P a1 mem)))))) :
    XI l M_X0_lastVertex G P mem 2 [(0, .ref (gA G 59)), (1, .int a1)] [] := by
  refine x_iload_n (pc := 2) dX0_lastVertex_2 1 rfl rfl ?_
  refine x_aload_n (pc := 3) dX0_lastVertex_3 0 rfl rfl ?_
  refine x_get (pc := 4) 59 0 dX0_lastVertex_4 (mK hG (by decide)) (mc_59 hG _) rfl inX0 (by decide) tb_109 rfl rfl ?_
  refine x_icmp_ge (pc := 7) (tgt := 27) dX0_lastVertex_7 (by decide) (fun c1 => ?_) (fun c1 => ?_)
  · have h := h.1 c1
    refine x_bipush (pc := 27) (v := (-9)) dX0_lastVertex_27 (by decide) ?_
    exact x_endI (pc := 29) dX0_lastVertex_29 rfl h
  · have h := h.2 c1
    refine x_aload_n (pc := 10) dX0_lastVertex_10 0 rfl rfl ?_
    refine x_get (pc := 11) 59 3 dX0_lastVertex_11 (mK hG (by decide)) (mc_59 hG _) rfl inX0 (by decide) tb_112 rfl rfl ?_
    refine x_iload_n (pc := 14) dX0_lastVertex_14 1 rfl rfl ?_
    have n2 := h.1
    refine x_zald (pc := 15) 60 dX0_lastVertex_15 (mK hG (by decide)) (mc_60 hG _) n2 ?_
    have h := h.2
    refine x_if_eq (pc := 16) (tgt := 21) dX0_lastVertex_16 (by decide) (fun c3 => ?_) (fun c3 => ?_)
    · have h := h.1 c3
      refine x_iinc (pc := 21) (v := (a1 + 1)) dX0_lastVertex_21 (k := 1) rfl rfl (by decide) rfl ?_
      refine x_goto (pc := 24) (tgt := 2) dX0_lastVertex_24 (by decide) ?_
      exact x_sub [1, 0] rfl h
    · have h := h.2 c3
      refine x_iload_n (pc := 19) dX0_lastVertex_19 1 rfl rfl ?_
      exact x_endI (pc := 20) dX0_lastVertex_20 rfl h
set_option maxRecDepth 100000 in
set_option maxHeartbeats 4000000 in
theorem t_X0_isVertex_0 {l : Launch} {G : Gx} {P : Int32 → Mem → Prop} (hG : Mn G) (a1 : Int32) (mem : Mem)
    (h : (a1 < 0 → (P 0 mem)) ∧ (¬ a1 < 0 → (((mem 59 0) ≤ a1 → (P 0 mem)) ∧ (¬ (mem 59 0) ≤ a1 → (P 1 mem))))) :
    XI l M_X0_isVertex G P mem 0 [(0, .ref (gA G 59)), (1, .int a1)] [] := by
  refine x_iload_n (pc := 0) dX0_isVertex_0 1 rfl rfl ?_
  refine x_if_lt (pc := 1) (tgt := 16) dX0_isVertex_1 (by decide) (fun c1 => ?_) (fun c1 => ?_)
  · have h := h.1 c1
    refine x_iconst (pc := 16) (v := 0) dX0_isVertex_16 (by decide) ?_
    exact x_endZ (pc := 17) dX0_isVertex_17 rfl (Or.inl rfl) h
  · have h := h.2 c1
    refine x_iload_n (pc := 4) dX0_isVertex_4 1 rfl rfl ?_
    refine x_aload_n (pc := 5) dX0_isVertex_5 0 rfl rfl ?_
    refine x_get (pc := 6) 59 0 dX0_isVertex_6 (mK hG (by decide)) (mc_59 hG _) rfl inX0 (by decide) tb_109 rfl rfl ?_
    refine x_icmp_ge (pc := 9) (tgt := 16) dX0_isVertex_9 (by decide) (fun c2 => ?_) (fun c2 => ?_)
    · have h := h.1 c2
      refine x_iconst (pc := 16) (v := 0) dX0_isVertex_16 (by decide) ?_
      exact x_endZ (pc := 17) dX0_isVertex_17 rfl (Or.inl rfl) h
    · have h := h.2 c2
      refine x_iconst (pc := 12) (v := 1) dX0_isVertex_12 (by decide) ?_
      refine x_goto (pc := 13) (tgt := 17) dX0_isVertex_13 (by decide) ?_
      exact x_endZ (pc := 17) dX0_isVertex_17 rfl (Or.inr rfl) h
set_option maxRecDepth 100000 in
set_option maxHeartbeats 4000000 in
theorem t_X0_copyEdges_0 {l : Launch} {G : Gx} {P : Mem → Prop} (hG : Mn G) {g : Nat} (hg : Fo G g)  (mem : Mem)
    (h : ∃ Q1 : Int32 → Mem → Prop, CtI l M_X1_vertices G [.ref (gA G g)] mem Q1 ∧ ∀ (r3 : Int32) (m4 : Mem), Q1 r3 m4 → (XV l M_X0_copyEdges G P (wr m4 59 0 r3) 10 [(0, .ref (gA G 59)), (1, .ref (gA G g)), (2, .int 0)] [])) :
    XV l M_X0_copyEdges G P mem 0 [(0, .ref (gA G 59)), (1, .ref (gA G g))] [] := by
  refine x_aload_n (pc := 0) dX0_copyEdges_0 0 rfl rfl ?_
  refine x_aload_n (pc := 1) dX0_copyEdges_1 1 rfl rfl ?_
  obtain ⟨Q1, hc2, h⟩ := h
  refine x_callVI (pc := 2) g hc2 ok_X1_vertices dX0_copyEdges_2 tb_456 ⟨⟨rfl, rfl⟩, ⟨by decide, by decide⟩, by decide, by decide⟩ (Fo_K0 hg) (Fo_c0 hg _) rfl (As := []) rfl rfl (Nat.le_of_ble_eq_true rfl) (fun r3 m4 q5 => ?_)
  have h := h r3 m4 q5
  refine x_put (pc := 5) 59 0 dX0_copyEdges_5 (mK hG (by decide)) (mc_59 hG) rfl inX0 tyX0 tyX0_ok nmX0 (by decide) tb_109 rfl rfl (by decide +kernel) (fun _ => Nat.le_of_ble_eq_true rfl) (fun _ _ => rfl) ?_
  refine x_iconst (pc := 8) (v := 0) dX0_copyEdges_8 (by decide) ?_
  refine x_istore_n (pc := 9) dX0_copyEdges_9 rfl (by decide) rfl ?_
  exact x_sub [1, 2, 0] rfl h
set_option maxRecDepth 100000 in
set_option maxHeartbeats 4000000 in
theorem t_X0_copyEdges_10 {l : Launch} {G : Gx} {P : Mem → Prop} (hG : Mn G) {g : Nat} (hg : Fo G g) (a2 : Int32) (mem : Mem)
    (h : ((mem 59 0) ≤ a2 → (P mem)) ∧ (¬ (mem 59 0) ≤ a2 → (XV l M_X0_copyEdges G P mem 20 [(0, .ref (gA G 59)), (1, .ref (gA G g)), (2, .int a2), (3, .int 0)] []))) :
    XV l M_X0_copyEdges G P mem 10 [(0, .ref (gA G 59)), (1, .ref (gA G g)), (2, .int a2)] [] := by
  refine x_iload_n (pc := 10) dX0_copyEdges_10 2 rfl rfl ?_
  refine x_aload_n (pc := 11) dX0_copyEdges_11 0 rfl rfl ?_
  refine x_get (pc := 12) 59 0 dX0_copyEdges_12 (mK hG (by decide)) (mc_59 hG _) rfl inX0 (by decide) tb_109 rfl rfl ?_
  refine x_icmp_ge (pc := 15) (tgt := 62) dX0_copyEdges_15 (by decide) (fun c1 => ?_) (fun c1 => ?_)
  · have h := h.1 c1
    exact x_endV (pc := 62) dX0_copyEdges_62 rfl h
  · have h := h.2 c1
    refine x_iconst (pc := 18) (v := 0) dX0_copyEdges_18 (by decide) ?_
    refine x_istore_n (pc := 19) dX0_copyEdges_19 rfl (by decide) rfl ?_
    exact x_sub [1, 2, 3, 0] rfl h
set_option maxRecDepth 100000 in
set_option maxHeartbeats 4000000 in
theorem t_X0_copyEdges_20 {l : Launch} {G : Gx} {P : Mem → Prop} (hG : Mn G) {g : Nat} (hg : Fo G g) (a2 : Int32) (a3 : Int32) (mem : Mem)
    (h : ((mem 59 0) ≤ a3 → (XV l M_X0_copyEdges G P mem 10 [(0, .ref (gA G 59)), (1, .ref (gA G g)), (2, .int (a2 + 1))] [])) ∧ (¬ (mem 59 0) ≤ a3 → (vp_in a2 12 ∧ (∃ Q3 : Int32 → Mem → Prop, CtI l M_X1_edgeBetween G [.ref (gA G g), .int a2, .int a3] mem Q3 ∧ ∀ (r5 : Int32) (m6 : Mem), Q3 r5 m6 → ((¬ r5 = 0 → (vp_in a3 12 ∧ (XV l M_X0_copyEdges G P (wr m6 (64 + a2.toNatClampNeg) a3.toNatClampNeg 1) 20 [(0, .ref (gA G 59)), (1, .ref (gA G g)), (2, .int a2), (3, .int (a3 + 1))] []))) ∧ (r5 = 0 → (vp_in a3 12 ∧ (XV l M_X0_copyEdges G P (wr m6 (64 + a2.toNatClampNeg) a3.toNatClampNeg 0) 20 [(0, .ref (gA G 59)), (1, .ref (gA G g)), (2, .int a2), (3, .int (a3 + 1))] [])))))))) :
    XV l M_X0_copyEdges G P mem 20 [(0, .ref (gA G 59)), (1, .ref (gA G g)), (2, .int a2), (3, .int a3)] [] := by
  refine x_iload_n (pc := 20) dX0_copyEdges_20 3 rfl rfl ?_
  refine x_aload_n (pc := 21) dX0_copyEdges_21 0 rfl rfl ?_
  refine x_get (pc := 22) 59 0 dX0_copyEdges_22 (mK hG (by decide)) (mc_59 hG _) rfl inX0 (by decide) tb_109 rfl rfl ?_
  refine x_icmp_ge (pc := 25) (tgt := 56) dX0_copyEdges_25 (by decide) (fun c1 => ?_) (fun c1 => ?_)
  · have h := h.1 c1
    refine x_iinc (pc := 56) (v := (a2 + 1)) dX0_copyEdges_56 (k := 2) rfl rfl (by decide) rfl ?_
    refine x_goto (pc := 59) (tgt := 10) dX0_copyEdges_59 (by decide) ?_
    exact x_sub [1, 2, 0] rfl h
  · have h := h.2 c1
    refine x_aload_n (pc := 28) dX0_copyEdges_28 0 rfl rfl ?_
    refine x_get (pc := 29) 59 6 dX0_copyEdges_29 (mK hG (by decide)) (mc_59 hG _) rfl inX0 (by decide) tb_115 rfl rfl ?_
    refine x_iload_n (pc := 32) dX0_copyEdges_32 2 rfl rfl ?_
    have n2 := h.1
    refine x_aaldR (pc := 33) 63 dX0_copyEdges_33 (mK hG (by decide)) (mc_63 hG _) n2 (if_pos (vp_lt n2)) ?_
    have h := h.2
    refine x_iload_n (pc := 34) dX0_copyEdges_34 3 rfl rfl ?_
    refine x_aload_n (pc := 35) dX0_copyEdges_35 1 rfl rfl ?_
    refine x_iload_n (pc := 36) dX0_copyEdges_36 2 rfl rfl ?_
    refine x_iload_n (pc := 37) dX0_copyEdges_37 3 rfl rfl ?_
    obtain ⟨Q3, hc4, h⟩ := h
    refine x_callVI (pc := 38) g hc4 ok_X1_edgeBetween dX0_copyEdges_38 tb_457 ⟨⟨rfl, rfl⟩, ⟨by decide, by decide⟩, by decide, by decide⟩ (Fo_K0 hg) (Fo_c0 hg _) rfl (As := [.int a2, .int a3]) rfl rfl (Nat.le_of_ble_eq_true rfl) (fun r5 m6 q7 => ?_)
    have h := h r5 m6 q7
    refine x_if_ne (pc := 41) (tgt := 48) dX0_copyEdges_41 (by decide) (fun c8 => ?_) (fun c8 => ?_)
    · have h := h.1 c8
      refine x_iconst (pc := 48) (v := 1) dX0_copyEdges_48 (by decide) ?_
      have n9 := h.1
      have h := h.2
      refine x_iast (pc := 49) (64 + a2.toNatClampNeg) dX0_copyEdges_49 (ro_K hG (vp_lt n2)) (ro_c hG (vp_lt n2)) n9 ?_
      refine x_iinc (pc := 50) (v := (a3 + 1)) dX0_copyEdges_50 (k := 3) rfl rfl (by decide) rfl ?_
      refine x_goto (pc := 53) (tgt := 20) dX0_copyEdges_53 (by decide) ?_
      exact x_sub [1, 2, 3, 0] rfl h
    · have h := h.2 c8
      refine x_iconst (pc := 44) (v := 0) dX0_copyEdges_44 (by decide) ?_
      refine x_goto (pc := 45) (tgt := 49) dX0_copyEdges_45 (by decide) ?_
      have n10 := h.1
      have h := h.2
      refine x_iast (pc := 49) (64 + a2.toNatClampNeg) dX0_copyEdges_49 (ro_K hG (vp_lt n2)) (ro_c hG (vp_lt n2)) n10 ?_
      refine x_iinc (pc := 50) (v := (a3 + 1)) dX0_copyEdges_50 (k := 3) rfl rfl (by decide) rfl ?_
      refine x_goto (pc := 53) (tgt := 20) dX0_copyEdges_53 (by decide) ?_
      exact x_sub [1, 2, 3, 0] rfl h
set_option maxRecDepth 100000 in
set_option maxHeartbeats 4000000 in
theorem t_X0_gatherTree_0 {l : Launch} {G : Gx} {P : Mem → Prop} (hG : Mn G) (a1 : Int32) (mem : Mem)
    (h : XV l M_X0_gatherTree G P mem 2 [(0, .ref (gA G 59)), (1, .int a1), (2, .int 0)] []) :
    XV l M_X0_gatherTree G P mem 0 [(0, .ref (gA G 59)), (1, .int a1)] [] := by
  refine x_iconst (pc := 0) (v := 0) dX0_gatherTree_0 (by decide) ?_
  refine x_istore_n (pc := 1) dX0_gatherTree_1 rfl (by decide) rfl ?_
  exact x_sub [1, 2, 0] rfl h
set_option maxRecDepth 100000 in
set_option maxHeartbeats 4000000 in
theorem t_X0_gatherTree_2 {l : Launch} {G : Gx} {P : Mem → Prop} (hG : Mn G) (a1 : Int32) (a2 : Int32) (mem : Mem)
    (h : (12 ≤ a2 → (∃ Q2 : Int32 → Mem → Prop, CtI l M_X0_isVertex G [.ref (gA G 59), .int a1] (wr mem 59 1 0) Q2 ∧ ∀ (r4 : Int32) (m5 : Mem), Q2 r4 m5 → ((¬ r4 = 0 → (vp_in a1 12 ∧ (XV l M_X0_gatherTree G P (wr (wr m5 60 a1.toNatClampNeg 1) 59 1 1) 57 [(0, .ref (gA G 59)), (2, .int 0)] []))) ∧ (r4 = 0 → (P m5))))) ∧ (¬ 12 ≤ a2 → (vp_in a2 12 ∧ (vp_in a2 12 ∧ (XV l M_X0_gatherTree G P (wr (wr mem 60 a2.toNatClampNeg 0) 62 a2.toNatClampNeg (-9)) 2 [(0, .ref (gA G 59)), (1, .int a1), (2, .int (a2 + 1))] []))))) :
    XV l M_X0_gatherTree G P mem 2 [(0, .ref (gA G 59)), (1, .int a1), (2, .int a2)] [] := by
  refine x_iload_n (pc := 2) dX0_gatherTree_2 2 rfl rfl ?_
  refine x_bipush (pc := 3) (v := 12) dX0_gatherTree_3 (by decide) ?_
  refine x_icmp_ge (pc := 5) (tgt := 29) dX0_gatherTree_5 (by decide) (fun c1 => ?_) (fun c1 => ?_)
  · have h := h.1 c1
    refine x_aload_n (pc := 29) dX0_gatherTree_29 0 rfl rfl ?_
    refine x_iconst (pc := 30) (v := 0) dX0_gatherTree_30 (by decide) ?_
    refine x_put (pc := 31) 59 1 dX0_gatherTree_31 (mK hG (by decide)) (mc_59 hG) rfl inX0 tyX0 tyX0_ok nmX0 (by decide) tb_110 rfl rfl (by decide +kernel) (fun _ => Nat.le_of_ble_eq_true rfl) (fun _ _ => rfl) ?_
    refine x_aload_n (pc := 34) dX0_gatherTree_34 0 rfl rfl ?_
    refine x_iload_n (pc := 35) dX0_gatherTree_35 1 rfl rfl ?_
    obtain ⟨Q2, hc3, h⟩ := h
    refine x_callVI (pc := 36) 59 hc3 ok_X0_isVertex dX0_gatherTree_36 tb_462 ⟨⟨rfl, rfl⟩, ⟨by decide, by decide⟩, by decide, by decide⟩ (mK hG (by decide)) (mc_59 hG _) rfl (As := [.int a1]) rfl rfl (Nat.le_of_ble_eq_true rfl) (fun r4 m5 q6 => ?_)
    have h := h r4 m5 q6
    refine x_if_ne (pc := 39) (tgt := 43) dX0_gatherTree_39 (by decide) (fun c7 => ?_) (fun c7 => ?_)
    · have h := h.1 c7
      refine x_aload_n (pc := 43) dX0_gatherTree_43 0 rfl rfl ?_
      refine x_get (pc := 44) 59 3 dX0_gatherTree_44 (mK hG (by decide)) (mc_59 hG _) rfl inX0 (by decide) tb_112 rfl rfl ?_
      refine x_iload_n (pc := 47) dX0_gatherTree_47 1 rfl rfl ?_
      refine x_iconst (pc := 48) (v := 1) dX0_gatherTree_48 (by decide) ?_
      have n8 := h.1
      have h := h.2
      refine x_zast (pc := 49) 60 dX0_gatherTree_49 (mK hG (by decide)) (mc_60 hG) n8 (Or.inr rfl) ?_
      refine x_aload_n (pc := 50) dX0_gatherTree_50 0 rfl rfl ?_
      refine x_iconst (pc := 51) (v := 1) dX0_gatherTree_51 (by decide) ?_
      refine x_put (pc := 52) 59 1 dX0_gatherTree_52 (mK hG (by decide)) (mc_59 hG) rfl inX0 tyX0 tyX0_ok nmX0 (by decide) tb_110 rfl rfl (by decide +kernel) (fun _ => Nat.le_of_ble_eq_true rfl) (fun _ _ => rfl) ?_
      refine x_iconst (pc := 55) (v := 0) dX0_gatherTree_55 (by decide) ?_
      refine x_istore_n (pc := 56) dX0_gatherTree_56 rfl (by decide) rfl ?_
      exact x_sub [1, 0] rfl h
    · have h := h.2 c7
      exact x_endV (pc := 42) dX0_gatherTree_42 rfl h
  · have h := h.2 c1
    refine x_aload_n (pc := 8) dX0_gatherTree_8 0 rfl rfl ?_
    refine x_get (pc := 9) 59 3 dX0_gatherTree_9 (mK hG (by decide)) (mc_59 hG _) rfl inX0 (by decide) tb_112 rfl rfl ?_
    refine x_iload_n (pc := 12) dX0_gatherTree_12 2 rfl rfl ?_
    refine x_iconst (pc := 13) (v := 0) dX0_gatherTree_13 (by decide) ?_
    have n9 := h.1
    have h := h.2
    refine x_zast (pc := 14) 60 dX0_gatherTree_14 (mK hG (by decide)) (mc_60 hG) n9 (Or.inl rfl) ?_
    refine x_aload_n (pc := 15) dX0_gatherTree_15 0 rfl rfl ?_
    refine x_get (pc := 16) 59 5 dX0_gatherTree_16 (mK hG (by decide)) (mc_59 hG _) rfl inX0 (by decide) tb_114 rfl rfl ?_
    refine x_iload_n (pc := 19) dX0_gatherTree_19 2 rfl rfl ?_
    refine x_bipush (pc := 20) (v := (-9)) dX0_gatherTree_20 (by decide) ?_
    have n10 := h.1
    have h := h.2
    refine x_iast (pc := 22) 62 dX0_gatherTree_22 (mK hG (by decide)) (mc_62 hG) n10 ?_
    refine x_iinc (pc := 23) (v := (a2 + 1)) dX0_gatherTree_23 (k := 2) rfl rfl (by decide) rfl ?_
    refine x_goto (pc := 26) (tgt := 2) dX0_gatherTree_26 (by decide) ?_
    exact x_sub [1, 2, 0] rfl h
set_option maxRecDepth 100000 in
set_option maxHeartbeats 4000000 in
theorem t_X0_gatherTree_57 {l : Launch} {G : Gx} {P : Mem → Prop} (hG : Mn G) (a2 : Int32) (mem : Mem)
    (h : ((mem 59 0) ≤ a2 → (P mem)) ∧ (¬ (mem 59 0) ≤ a2 → (∃ Q2 : Mem → Prop, CtV l M_X0_gatherNeighbours G [.ref (gA G 59)] mem Q2 ∧ ∀ m5 : Mem, Q2 m5 → (XV l M_X0_gatherTree G P m5 57 [(0, .ref (gA G 59)), (2, .int (a2 + 1))] [])))) :
    XV l M_X0_gatherTree G P mem 57 [(0, .ref (gA G 59)), (2, .int a2)] [] := by
  refine x_iload_n (pc := 57) dX0_gatherTree_57 1 rfl rfl ?_
  refine x_aload_n (pc := 58) dX0_gatherTree_58 0 rfl rfl ?_
  refine x_get (pc := 59) 59 0 dX0_gatherTree_59 (mK hG (by decide)) (mc_59 hG _) rfl inX0 (by decide) tb_109 rfl rfl ?_
  refine x_icmp_ge (pc := 62) (tgt := 75) dX0_gatherTree_62 (by decide) (fun c1 => ?_) (fun c1 => ?_)
  · have h := h.1 c1
    exact x_endV (pc := 75) dX0_gatherTree_75 rfl h
  · have h := h.2 c1
    refine x_aload_n (pc := 65) dX0_gatherTree_65 0 rfl rfl ?_
    obtain ⟨Q2, hc3, h⟩ := h
    refine x_callVV (pc := 66) 59 hc3 ok_X0_gatherNeighbours dX0_gatherTree_66 tb_466 ⟨⟨rfl, rfl⟩, ⟨by decide, by decide⟩, by decide, by decide⟩ (mK hG (by decide)) (mc_59 hG _) rfl (As := []) rfl rfl (Nat.le_of_ble_eq_true rfl) (fun m5 q6 => ?_)
    have h := h m5 q6
    refine x_iinc (pc := 69) (v := (a2 + 1)) dX0_gatherTree_69 (k := 1) rfl rfl (by decide) rfl ?_
    refine x_goto (pc := 72) (tgt := 57) dX0_gatherTree_72 (by decide) ?_
    exact x_sub [1, 0] rfl h
set_option maxRecDepth 100000 in
set_option maxHeartbeats 4000000 in
theorem t_X0_gatherNeighbours_0 {l : Launch} {G : Gx} {P : Mem → Prop} (hG : Mn G)  (mem : Mem)
    (h : XV l M_X0_gatherNeighbours G P mem 2 [(0, .ref (gA G 59)), (1, .int 0)] []) :
    XV l M_X0_gatherNeighbours G P mem 0 [(0, .ref (gA G 59))] [] := by
  refine x_iconst (pc := 0) (v := 0) dX0_gatherNeighbours_0 (by decide) ?_
  refine x_istore_n (pc := 1) dX0_gatherNeighbours_1 rfl (by decide) rfl ?_
  exact x_sub [1, 0] rfl h
set_option maxRecDepth 100000 in
set_option maxHeartbeats 4000000 in
theorem t_X0_gatherNeighbours_2 {l : Launch} {G : Gx} {P : Mem → Prop} (hG : Mn G) (a1 : Int32) (mem : Mem)
    (h : ((mem 59 0) ≤ a1 → (P mem)) ∧ (¬ (mem 59 0) ≤ a1 → (XV l M_X0_gatherNeighbours G P mem 12 [(0, .ref (gA G 59)), (1, .int a1), (2, .int 0)] []))) :
    XV l M_X0_gatherNeighbours G P mem 2 [(0, .ref (gA G 59)), (1, .int a1)] [] := by
  refine x_iload_n (pc := 2) dX0_gatherNeighbours_2 1 rfl rfl ?_
  refine x_aload_n (pc := 3) dX0_gatherNeighbours_3 0 rfl rfl ?_
  refine x_get (pc := 4) 59 0 dX0_gatherNeighbours_4 (mK hG (by decide)) (mc_59 hG _) rfl inX0 (by decide) tb_109 rfl rfl ?_
  refine x_icmp_ge (pc := 7) (tgt := 78) dX0_gatherNeighbours_7 (by decide) (fun c1 => ?_) (fun c1 => ?_)
  · have h := h.1 c1
    exact x_endV (pc := 78) dX0_gatherNeighbours_78 rfl h
  · have h := h.2 c1
    refine x_iconst (pc := 10) (v := 0) dX0_gatherNeighbours_10 (by decide) ?_
    refine x_istore_n (pc := 11) dX0_gatherNeighbours_11 rfl (by decide) rfl ?_
    exact x_sub [1, 2, 0] rfl h
set_option maxRecDepth 100000 in
set_option maxHeartbeats 4000000 in
theorem t_X0_gatherNeighbours_12 {l : Launch} {G : Gx} {P : Mem → Prop} (hG : Mn G) (a1 : Int32) (a2 : Int32) (mem : Mem)
    (h : ((mem 59 0) ≤ a2 → (XV l M_X0_gatherNeighbours G P mem 2 [(0, .ref (gA G 59)), (1, .int (a1 + 1))] [])) ∧ (¬ (mem 59 0) ≤ a2 → (vp_in a1 12 ∧ (((mem 60 a1.toNatClampNeg) = 0 → (XV l M_X0_gatherNeighbours G P mem 12 [(0, .ref (gA G 59)), (1, .int a1), (2, .int (a2 + 1))] [])) ∧ (¬ (mem 60 a1.toNatClampNeg) = 0 → (vp_in a2 12 ∧ ((¬ (mem 60 a2.toNatClampNeg) = 0 → (XV l M_X0_gatherNeighbours G P mem 12 [(0, .ref (gA G 59)), (1, .int a1), (2, .int (a2 + 1))] [])) ∧ ((mem 60 a2.toNatClampNeg) = 0 → (vp_in a1 12 ∧ (vp_in a2 12 ∧ (((mem (64 + a1.toNatClampNeg) a2.toNatClampNeg) = 0 → (XV l M_X0_gatherNeighbours G P mem 12 [(0, .ref (gA G 59)), (1, .int a1), (2, .int (a2 + 1))] [])) ∧ (¬ (mem (64 + a1.toNatClampNeg) a2.toNatClampNeg) = 0 → (vp_in a2 12 ∧ (XV l M_X0_gatherNeighbours G P (wr (wr mem 60 a2.toNatClampNeg 1) 59 1 (((wr mem 60 a2.toNatClampNeg 1) 59 1) + 1)) 12 [(0, .ref (gA G 59)), (1, .int a1), (2, .int (a2 + 1))] [])))))))))))))) :
    XV l M_X0_gatherNeighbours G P mem 12 [(0, .ref (gA G 59)), (1, .int a1), (2, .int a2)] [] := by
  refine x_iload_n (pc := 12) dX0_gatherNeighbours_12 2 rfl rfl ?_
  refine x_aload_n (pc := 13) dX0_gatherNeighbours_13 0 rfl rfl ?_
  refine x_get (pc := 14) 59 0 dX0_gatherNeighbours_14 (mK hG (by decide)) (mc_59 hG _) rfl inX0 (by decide) tb_109 rfl rfl ?_
  refine x_icmp_ge (pc := 17) (tgt := 72) dX0_gatherNeighbours_17 (by decide) (fun c1 => ?_) (fun c1 => ?_)
  · have h := h.1 c1
    refine x_iinc (pc := 72) (v := (a1 + 1)) dX0_gatherNeighbours_72 (k := 1) rfl rfl (by decide) rfl ?_
    refine x_goto (pc := 75) (tgt := 2) dX0_gatherNeighbours_75 (by decide) ?_
    exact x_sub [1, 0] rfl h
  · have h := h.2 c1
    refine x_aload_n (pc := 20) dX0_gatherNeighbours_20 0 rfl rfl ?_
    refine x_get (pc := 21) 59 3 dX0_gatherNeighbours_21 (mK hG (by decide)) (mc_59 hG _) rfl inX0 (by decide) tb_112 rfl rfl ?_
    refine x_iload_n (pc := 24) dX0_gatherNeighbours_24 1 rfl rfl ?_
    have n2 := h.1
    refine x_zald (pc := 25) 60 dX0_gatherNeighbours_25 (mK hG (by decide)) (mc_60 hG _) n2 ?_
    have h := h.2
    refine x_if_eq (pc := 26) (tgt := 66) dX0_gatherNeighbours_26 (by decide) (fun c3 => ?_) (fun c3 => ?_)
    · have h := h.1 c3
      refine x_iinc (pc := 66) (v := (a2 + 1)) dX0_gatherNeighbours_66 (k := 2) rfl rfl (by decide) rfl ?_
      refine x_goto (pc := 69) (tgt := 12) dX0_gatherNeighbours_69 (by decide) ?_
      exact x_sub [1, 2, 0] rfl h
    · have h := h.2 c3
      refine x_aload_n (pc := 29) dX0_gatherNeighbours_29 0 rfl rfl ?_
      refine x_get (pc := 30) 59 3 dX0_gatherNeighbours_30 (mK hG (by decide)) (mc_59 hG _) rfl inX0 (by decide) tb_112 rfl rfl ?_
      refine x_iload_n (pc := 33) dX0_gatherNeighbours_33 2 rfl rfl ?_
      have n4 := h.1
      refine x_zald (pc := 34) 60 dX0_gatherNeighbours_34 (mK hG (by decide)) (mc_60 hG _) n4 ?_
      have h := h.2
      refine x_if_ne (pc := 35) (tgt := 66) dX0_gatherNeighbours_35 (by decide) (fun c5 => ?_) (fun c5 => ?_)
      · have h := h.1 c5
        refine x_iinc (pc := 66) (v := (a2 + 1)) dX0_gatherNeighbours_66 (k := 2) rfl rfl (by decide) rfl ?_
        refine x_goto (pc := 69) (tgt := 12) dX0_gatherNeighbours_69 (by decide) ?_
        exact x_sub [1, 2, 0] rfl h
      · have h := h.2 c5
        refine x_aload_n (pc := 38) dX0_gatherNeighbours_38 0 rfl rfl ?_
        refine x_get (pc := 39) 59 6 dX0_gatherNeighbours_39 (mK hG (by decide)) (mc_59 hG _) rfl inX0 (by decide) tb_115 rfl rfl ?_
        refine x_iload_n (pc := 42) dX0_gatherNeighbours_42 1 rfl rfl ?_
        have n6 := h.1
        refine x_aaldR (pc := 43) 63 dX0_gatherNeighbours_43 (mK hG (by decide)) (mc_63 hG _) n6 (if_pos (vp_lt n6)) ?_
        have h := h.2
        refine x_iload_n (pc := 44) dX0_gatherNeighbours_44 2 rfl rfl ?_
        have n7 := h.1
        refine x_iald (pc := 45) (64 + a1.toNatClampNeg) dX0_gatherNeighbours_45 (ro_K hG (vp_lt n6)) (ro_c hG (vp_lt n6) _) n7 ?_
        have h := h.2
        refine x_if_eq (pc := 46) (tgt := 66) dX0_gatherNeighbours_46 (by decide) (fun c8 => ?_) (fun c8 => ?_)
        · have h := h.1 c8
          refine x_iinc (pc := 66) (v := (a2 + 1)) dX0_gatherNeighbours_66 (k := 2) rfl rfl (by decide) rfl ?_
          refine x_goto (pc := 69) (tgt := 12) dX0_gatherNeighbours_69 (by decide) ?_
          exact x_sub [1, 2, 0] rfl h
        · have h := h.2 c8
          refine x_aload_n (pc := 49) dX0_gatherNeighbours_49 0 rfl rfl ?_
          refine x_get (pc := 50) 59 3 dX0_gatherNeighbours_50 (mK hG (by decide)) (mc_59 hG _) rfl inX0 (by decide) tb_112 rfl rfl ?_
          refine x_iload_n (pc := 53) dX0_gatherNeighbours_53 2 rfl rfl ?_
          refine x_iconst (pc := 54) (v := 1) dX0_gatherNeighbours_54 (by decide) ?_
          have n9 := h.1
          have h := h.2
          refine x_zast (pc := 55) 60 dX0_gatherNeighbours_55 (mK hG (by decide)) (mc_60 hG) n9 (Or.inr rfl) ?_
          refine x_aload_n (pc := 56) dX0_gatherNeighbours_56 0 rfl rfl ?_
          refine x_dup (pc := 57) dX0_gatherNeighbours_57 rfl ?_
          refine x_get (pc := 58) 59 1 dX0_gatherNeighbours_58 (mK hG (by decide)) (mc_59 hG _) rfl inX0 (by decide) tb_110 rfl rfl ?_
          refine x_iconst (pc := 61) (v := 1) dX0_gatherNeighbours_61 (by decide) ?_
          refine x_iadd (pc := 62) dX0_gatherNeighbours_62 ?_
          refine x_put (pc := 63) 59 1 dX0_gatherNeighbours_63 (mK hG (by decide)) (mc_59 hG) rfl inX0 tyX0 tyX0_ok nmX0 (by decide) tb_110 rfl rfl (by decide +kernel) (fun _ => Nat.le_of_ble_eq_true rfl) (fun _ _ => rfl) ?_
          refine x_iinc (pc := 66) (v := (a2 + 1)) dX0_gatherNeighbours_66 (k := 2) rfl rfl (by decide) rfl ?_
          refine x_goto (pc := 69) (tgt := 12) dX0_gatherNeighbours_69 (by decide) ?_
          exact x_sub [1, 2, 0] rfl h
set_option maxRecDepth 100000 in
set_option maxHeartbeats 4000000 in
theorem t_X0_rake_0 {l : Launch} {G : Gx} {P : Mem → Prop} (hG : Mn G)  (mem : Mem)
    (h : (¬ (mem 59 1) = 2 → (XV l M_X0_rake G P mem 15 [(0, .ref (gA G 59)), (1, .int 0)] [])) ∧ ((mem 59 1) = 2 → (∃ Q2 : Mem → Prop, CtV l M_X0_removeGreatest G [.ref (gA G 59)] mem Q2 ∧ ∀ m5 : Mem, Q2 m5 → (P m5)))) :
    XV l M_X0_rake G P mem 0 [(0, .ref (gA G 59))] [] := by
  refine x_aload_n (pc := 0) dX0_rake_0 0 rfl rfl ?_
  refine x_get (pc := 1) 59 1 dX0_rake_1 (mK hG (by decide)) (mc_59 hG _) rfl inX0 (by decide) tb_110 rfl rfl ?_
  refine x_iconst (pc := 4) (v := 2) dX0_rake_4 (by decide) ?_
  refine x_icmp_ne (pc := 5) (tgt := 13) dX0_rake_5 (by decide) (fun c1 => ?_) (fun c1 => ?_)
  · have h := h.1 c1
    refine x_iconst (pc := 13) (v := 0) dX0_rake_13 (by decide) ?_
    refine x_istore_n (pc := 14) dX0_rake_14 rfl (by decide) rfl ?_
    exact x_sub [1, 0] rfl h
  · have h := h.2 c1
    refine x_aload_n (pc := 8) dX0_rake_8 0 rfl rfl ?_
    obtain ⟨Q2, hc3, h⟩ := h
    refine x_callVV (pc := 9) 59 hc3 ok_X0_removeGreatest dX0_rake_9 tb_474 ⟨⟨rfl, rfl⟩, ⟨by decide, by decide⟩, by decide, by decide⟩ (mK hG (by decide)) (mc_59 hG _) rfl (As := []) rfl rfl (Nat.le_of_ble_eq_true rfl) (fun m5 q6 => ?_)
    have h := h m5 q6
    exact x_endV (pc := 12) dX0_rake_12 rfl h
set_option maxRecDepth 100000 in
set_option maxHeartbeats 4000000 in
theorem t_X0_rake_15 {l : Launch} {G : Gx} {P : Mem → Prop} (hG : Mn G) (a1 : Int32) (mem : Mem)
    (h : ((mem 59 0) ≤ a1 → (XV l M_X0_rake G P mem 60 [(0, .ref (gA G 59)), (1, .int 0)] [])) ∧ (¬ (mem 59 0) ≤ a1 → (vp_in a1 12 ∧ (((mem 60 a1.toNatClampNeg) = 0 → (vp_in a1 12 ∧ (XV l M_X0_rake G P (wr mem 61 a1.toNatClampNeg 0) 15 [(0, .ref (gA G 59)), (1, .int (a1 + 1))] []))) ∧ (¬ (mem 60 a1.toNatClampNeg) = 0 → (∃ Q5 : Int32 → Mem → Prop, CtI l M_X0_degreeOf G [.ref (gA G 59), .int a1] mem Q5 ∧ ∀ (r7 : Int32) (m8 : Mem), Q5 r7 m8 → ((¬ r7 = 1 → (vp_in a1 12 ∧ (XV l M_X0_rake G P (wr m8 61 a1.toNatClampNeg 0) 15 [(0, .ref (gA G 59)), (1, .int (a1 + 1))] []))) ∧ (r7 = 1 → (vp_in a1 12 ∧ (XV l M_X0_rake G P (wr m8 61 a1.toNatClampNeg 1) 15 [(0, .ref (gA G 59)), (1, .int (a1 + 1))] [])))))))))) :
    XV l M_X0_rake G P mem 15 [(0, .ref (gA G 59)), (1, .int a1)] [] := by
  refine x_iload_n (pc := 15) dX0_rake_15 1 rfl rfl ?_
  refine x_aload_n (pc := 16) dX0_rake_16 0 rfl rfl ?_
  refine x_get (pc := 17) 59 0 dX0_rake_17 (mK hG (by decide)) (mc_59 hG _) rfl inX0 (by decide) tb_109 rfl rfl ?_
  refine x_icmp_ge (pc := 20) (tgt := 58) dX0_rake_20 (by decide) (fun c1 => ?_) (fun c1 => ?_)
  · have h := h.1 c1
    refine x_iconst (pc := 58) (v := 0) dX0_rake_58 (by decide) ?_
    refine x_istore_n (pc := 59) dX0_rake_59 rfl (by decide) rfl ?_
    exact x_sub [1, 0] rfl h
  · have h := h.2 c1
    refine x_aload_n (pc := 23) dX0_rake_23 0 rfl rfl ?_
    refine x_get (pc := 24) 59 4 dX0_rake_24 (mK hG (by decide)) (mc_59 hG _) rfl inX0 (by decide) tb_113 rfl rfl ?_
    refine x_iload_n (pc := 27) dX0_rake_27 1 rfl rfl ?_
    refine x_aload_n (pc := 28) dX0_rake_28 0 rfl rfl ?_
    refine x_get (pc := 29) 59 3 dX0_rake_29 (mK hG (by decide)) (mc_59 hG _) rfl inX0 (by decide) tb_112 rfl rfl ?_
    refine x_iload_n (pc := 32) dX0_rake_32 1 rfl rfl ?_
    have n2 := h.1
    refine x_zald (pc := 33) 60 dX0_rake_33 (mK hG (by decide)) (mc_60 hG _) n2 ?_
    have h := h.2
    refine x_if_eq (pc := 34) (tgt := 50) dX0_rake_34 (by decide) (fun c3 => ?_) (fun c3 => ?_)
    · have h := h.1 c3
      refine x_iconst (pc := 50) (v := 0) dX0_rake_50 (by decide) ?_
      have n4 := h.1
      have h := h.2
      refine x_zast (pc := 51) 61 dX0_rake_51 (mK hG (by decide)) (mc_61 hG) n4 (Or.inl rfl) ?_
      refine x_iinc (pc := 52) (v := (a1 + 1)) dX0_rake_52 (k := 1) rfl rfl (by decide) rfl ?_
      refine x_goto (pc := 55) (tgt := 15) dX0_rake_55 (by decide) ?_
      exact x_sub [1, 0] rfl h
    · have h := h.2 c3
      refine x_aload_n (pc := 37) dX0_rake_37 0 rfl rfl ?_
      refine x_iload_n (pc := 38) dX0_rake_38 1 rfl rfl ?_
      obtain ⟨Q5, hc6, h⟩ := h
      refine x_callVI (pc := 39) 59 hc6 ok_X0_degreeOf dX0_rake_39 tb_482 ⟨⟨rfl, rfl⟩, ⟨by decide, by decide⟩, by decide, by decide⟩ (mK hG (by decide)) (mc_59 hG _) rfl (As := [.int a1]) rfl rfl (Nat.le_of_ble_eq_true rfl) (fun r7 m8 q9 => ?_)
      have h := h r7 m8 q9
      refine x_iconst (pc := 42) (v := 1) dX0_rake_42 (by decide) ?_
      refine x_icmp_ne (pc := 43) (tgt := 50) dX0_rake_43 (by decide) (fun c10 => ?_) (fun c10 => ?_)
      · have h := h.1 c10
        refine x_iconst (pc := 50) (v := 0) dX0_rake_50 (by decide) ?_
        have n11 := h.1
        have h := h.2
        refine x_zast (pc := 51) 61 dX0_rake_51 (mK hG (by decide)) (mc_61 hG) n11 (Or.inl rfl) ?_
        refine x_iinc (pc := 52) (v := (a1 + 1)) dX0_rake_52 (k := 1) rfl rfl (by decide) rfl ?_
        refine x_goto (pc := 55) (tgt := 15) dX0_rake_55 (by decide) ?_
        exact x_sub [1, 0] rfl h
      · have h := h.2 c10
        refine x_iconst (pc := 46) (v := 1) dX0_rake_46 (by decide) ?_
        refine x_goto (pc := 47) (tgt := 51) dX0_rake_47 (by decide) ?_
        have n12 := h.1
        have h := h.2
        refine x_zast (pc := 51) 61 dX0_rake_51 (mK hG (by decide)) (mc_61 hG) n12 (Or.inr rfl) ?_
        refine x_iinc (pc := 52) (v := (a1 + 1)) dX0_rake_52 (k := 1) rfl rfl (by decide) rfl ?_
        refine x_goto (pc := 55) (tgt := 15) dX0_rake_55 (by decide) ?_
        exact x_sub [1, 0] rfl h
set_option maxRecDepth 100000 in
set_option maxHeartbeats 4000000 in
theorem t_X0_rake_60 {l : Launch} {G : Gx} {P : Mem → Prop} (hG : Mn G) (a1 : Int32) (mem : Mem)
    (h : ((mem 59 0) ≤ a1 → (P mem)) ∧ (¬ (mem 59 0) ≤ a1 → (vp_in a1 12 ∧ (((mem 61 a1.toNatClampNeg) = 0 → (XV l M_X0_rake G P mem 60 [(0, .ref (gA G 59)), (1, .int (a1 + 1))] [])) ∧ (¬ (mem 61 a1.toNatClampNeg) = 0 → (∃ Q4 : Mem → Prop, CtV l M_X0_remove G [.ref (gA G 59), .int a1] mem Q4 ∧ ∀ m7 : Mem, Q4 m7 → (XV l M_X0_rake G P m7 60 [(0, .ref (gA G 59)), (1, .int (a1 + 1))] []))))))) :
    XV l M_X0_rake G P mem 60 [(0, .ref (gA G 59)), (1, .int a1)] [] := by
  refine x_iload_n (pc := 60) dX0_rake_60 1 rfl rfl ?_
  refine x_aload_n (pc := 61) dX0_rake_61 0 rfl rfl ?_
  refine x_get (pc := 62) 59 0 dX0_rake_62 (mK hG (by decide)) (mc_59 hG _) rfl inX0 (by decide) tb_109 rfl rfl ?_
  refine x_icmp_ge (pc := 65) (tgt := 88) dX0_rake_65 (by decide) (fun c1 => ?_) (fun c1 => ?_)
  · have h := h.1 c1
    exact x_endV (pc := 88) dX0_rake_88 rfl h
  · have h := h.2 c1
    refine x_aload_n (pc := 68) dX0_rake_68 0 rfl rfl ?_
    refine x_get (pc := 69) 59 4 dX0_rake_69 (mK hG (by decide)) (mc_59 hG _) rfl inX0 (by decide) tb_113 rfl rfl ?_
    refine x_iload_n (pc := 72) dX0_rake_72 1 rfl rfl ?_
    have n2 := h.1
    refine x_zald (pc := 73) 61 dX0_rake_73 (mK hG (by decide)) (mc_61 hG _) n2 ?_
    have h := h.2
    refine x_if_eq (pc := 74) (tgt := 82) dX0_rake_74 (by decide) (fun c3 => ?_) (fun c3 => ?_)
    · have h := h.1 c3
      refine x_iinc (pc := 82) (v := (a1 + 1)) dX0_rake_82 (k := 1) rfl rfl (by decide) rfl ?_
      refine x_goto (pc := 85) (tgt := 60) dX0_rake_85 (by decide) ?_
      exact x_sub [1, 0] rfl h
    · have h := h.2 c3
      refine x_aload_n (pc := 77) dX0_rake_77 0 rfl rfl ?_
      refine x_iload_n (pc := 78) dX0_rake_78 1 rfl rfl ?_
      obtain ⟨Q4, hc5, h⟩ := h
      refine x_callVV (pc := 79) 59 hc5 ok_X0_remove dX0_rake_79 tb_478 ⟨⟨rfl, rfl⟩, ⟨by decide, by decide⟩, by decide, by decide⟩ (mK hG (by decide)) (mc_59 hG _) rfl (As := [.int a1]) rfl rfl (Nat.le_of_ble_eq_true rfl) (fun m7 q8 => ?_)
      have h := h m7 q8
      refine x_iinc (pc := 82) (v := (a1 + 1)) dX0_rake_82 (k := 1) rfl rfl (by decide) rfl ?_
      refine x_goto (pc := 85) (tgt := 60) dX0_rake_85 (by decide) ?_
      exact x_sub [1, 0] rfl h
set_option maxRecDepth 100000 in
set_option maxHeartbeats 4000000 in
theorem t_X0_removeGreatest_0 {l : Launch} {G : Gx} {P : Mem → Prop} (hG : Mn G)  (mem : Mem)
    (h : XV l M_X0_removeGreatest G P mem 7 [(0, .ref (gA G 59)), (1, .int ((mem 59 0) - 1))] []) :
    XV l M_X0_removeGreatest G P mem 0 [(0, .ref (gA G 59))] [] := by
  refine x_aload_n (pc := 0) dX0_removeGreatest_0 0 rfl rfl ?_
  refine x_get (pc := 1) 59 0 dX0_removeGreatest_1 (mK hG (by decide)) (mc_59 hG _) rfl inX0 (by decide) tb_109 rfl rfl ?_
  refine x_iconst (pc := 4) (v := 1) dX0_removeGreatest_4 (by decide) ?_
  refine x_isub (pc := 5) dX0_removeGreatest_5 ?_
  refine x_istore_n (pc := 6) dX0_removeGreatest_6 rfl (by decide) rfl ?_
  exact x_sub [1, 0] rfl h
set_option maxRecDepth 100000 in
set_option maxHeartbeats 4000000 in
theorem t_X0_removeGreatest_7 {l : Launch} {G : Gx} {P : Mem → Prop} (hG : Mn G) (a1 : Int32) (mem : Mem)
    (h : (a1 < 0 → (P mem)) ∧ (¬ a1 < 0 → (vp_in a1 12 ∧ (((mem 60 a1.toNatClampNeg) = 0 → (XV l M_X0_removeGreatest G P mem 7 [(0, .ref (gA G 59)), (1, .int (a1 + (-1)))] [])) ∧ (¬ (mem 60 a1.toNatClampNeg) = 0 → (∃ Q4 : Mem → Prop, CtV l M_X0_remove G [.ref (gA G 59), .int a1] mem Q4 ∧ ∀ m7 : Mem, Q4 m7 → (P m7))))))) :
    XV l M_X0_removeGreatest G P mem 7 [(0, .ref (gA G 59)), (1, .int a1)] [] := by
  refine x_iload_n (pc := 7) dX0_removeGreatest_7 1 rfl rfl ?_
  refine x_if_lt (pc := 8) (tgt := 32) dX0_removeGreatest_8 (by decide) (fun c1 => ?_) (fun c1 => ?_)
  · have h := h.1 c1
    exact x_endV (pc := 32) dX0_removeGreatest_32 rfl h
  · have h := h.2 c1
    refine x_aload_n (pc := 11) dX0_removeGreatest_11 0 rfl rfl ?_
    refine x_get (pc := 12) 59 3 dX0_removeGreatest_12 (mK hG (by decide)) (mc_59 hG _) rfl inX0 (by decide) tb_112 rfl rfl ?_
    refine x_iload_n (pc := 15) dX0_removeGreatest_15 1 rfl rfl ?_
    have n2 := h.1
    refine x_zald (pc := 16) 60 dX0_removeGreatest_16 (mK hG (by decide)) (mc_60 hG _) n2 ?_
    have h := h.2
    refine x_if_eq (pc := 17) (tgt := 26) dX0_removeGreatest_17 (by decide) (fun c3 => ?_) (fun c3 => ?_)
    · have h := h.1 c3
      refine x_iinc (pc := 26) (v := (a1 + (-1))) dX0_removeGreatest_26 (k := 1) rfl rfl (by decide) rfl ?_
      refine x_goto (pc := 29) (tgt := 7) dX0_removeGreatest_29 (by decide) ?_
      exact x_sub [1, 0] rfl h
    · have h := h.2 c3
      refine x_aload_n (pc := 20) dX0_removeGreatest_20 0 rfl rfl ?_
      refine x_iload_n (pc := 21) dX0_removeGreatest_21 1 rfl rfl ?_
      obtain ⟨Q4, hc5, h⟩ := h
      refine x_callVV (pc := 22) 59 hc5 ok_X0_remove dX0_removeGreatest_22 tb_478 ⟨⟨rfl, rfl⟩, ⟨by decide, by decide⟩, by decide, by decide⟩ (mK hG (by decide)) (mc_59 hG _) rfl (As := [.int a1]) rfl rfl (Nat.le_of_ble_eq_true rfl) (fun m7 q8 => ?_)
      have h := h m7 q8
      exact x_endV (pc := 25) dX0_removeGreatest_25 rfl h
set_option maxRecDepth 100000 in
set_option maxHeartbeats 4000000 in
theorem t_X0_compress_0 {l : Launch} {G : Gx} {P : Mem → Prop} (hG : Mn G)  (mem : Mem)
    (h : ∃ Q1 : Mem → Prop, CtV l M_X0_makeEdgesOld G [.ref (gA G 59)] mem Q1 ∧ ∀ m4 : Mem, Q1 m4 → (XV l M_X0_compress G P m4 6 [(0, .ref (gA G 59)), (1, .int 0)] [])) :
    XV l M_X0_compress G P mem 0 [(0, .ref (gA G 59))] [] := by
  refine x_aload_n (pc := 0) dX0_compress_0 0 rfl rfl ?_
  obtain ⟨Q1, hc2, h⟩ := h
  refine x_callVV (pc := 1) 59 hc2 ok_X0_makeEdgesOld dX0_compress_1 tb_490 ⟨⟨rfl, rfl⟩, ⟨by decide, by decide⟩, by decide, by decide⟩ (mK hG (by decide)) (mc_59 hG _) rfl (As := []) rfl rfl (Nat.le_of_ble_eq_true rfl) (fun m4 q5 => ?_)
  have h := h m4 q5
  refine x_iconst (pc := 4) (v := 0) dX0_compress_4 (by decide) ?_
  refine x_istore_n (pc := 5) dX0_compress_5 rfl (by decide) rfl ?_
  exact x_sub [1, 0] rfl h
set_option maxRecDepth 100000 in
set_option maxHeartbeats 4000000 in
theorem t_X0_compress_6 {l : Launch} {G : Gx} {P : Mem → Prop} (hG : Mn G) (a1 : Int32) (mem : Mem)
    (h : ((mem 59 0) ≤ a1 → (P mem)) ∧ (¬ (mem 59 0) ≤ a1 → (vp_in a1 12 ∧ (((mem 60 a1.toNatClampNeg) = 0 → (XV l M_X0_compress G P mem 6 [(0, .ref (gA G 59)), (1, .int (a1 + 1))] [])) ∧ (¬ (mem 60 a1.toNatClampNeg) = 0 → (∃ Q4 : Int32 → Mem → Prop, CtI l M_X0_degreeOf G [.ref (gA G 59), .int a1] mem Q4 ∧ ∀ (r6 : Int32) (m7 : Mem), Q4 r6 m7 → ((¬ r6 = 2 → (XV l M_X0_compress G P m7 6 [(0, .ref (gA G 59)), (1, .int (a1 + 1))] [])) ∧ (r6 = 2 → (∃ Q10 : Mem → Prop, CtV l M_X0_bypass G [.ref (gA G 59), .int a1] m7 Q10 ∧ ∀ m13 : Mem, Q10 m13 → (XV l M_X0_compress G P m13 6 [(0, .ref (gA G 59)), (1, .int (a1 + 1))] [])))))))))) :
    XV l M_X0_compress G P mem 6 [(0, .ref (gA G 59)), (1, .int a1)] [] := by
  refine x_iload_n (pc := 6) dX0_compress_6 1 rfl rfl ?_
  refine x_aload_n (pc := 7) dX0_compress_7 0 rfl rfl ?_
  refine x_get (pc := 8) 59 0 dX0_compress_8 (mK hG (by decide)) (mc_59 hG _) rfl inX0 (by decide) tb_109 rfl rfl ?_
  refine x_icmp_ge (pc := 11) (tgt := 43) dX0_compress_11 (by decide) (fun c1 => ?_) (fun c1 => ?_)
  · have h := h.1 c1
    exact x_endV (pc := 43) dX0_compress_43 rfl h
  · have h := h.2 c1
    refine x_aload_n (pc := 14) dX0_compress_14 0 rfl rfl ?_
    refine x_get (pc := 15) 59 3 dX0_compress_15 (mK hG (by decide)) (mc_59 hG _) rfl inX0 (by decide) tb_112 rfl rfl ?_
    refine x_iload_n (pc := 18) dX0_compress_18 1 rfl rfl ?_
    have n2 := h.1
    refine x_zald (pc := 19) 60 dX0_compress_19 (mK hG (by decide)) (mc_60 hG _) n2 ?_
    have h := h.2
    refine x_if_eq (pc := 20) (tgt := 37) dX0_compress_20 (by decide) (fun c3 => ?_) (fun c3 => ?_)
    · have h := h.1 c3
      refine x_iinc (pc := 37) (v := (a1 + 1)) dX0_compress_37 (k := 1) rfl rfl (by decide) rfl ?_
      refine x_goto (pc := 40) (tgt := 6) dX0_compress_40 (by decide) ?_
      exact x_sub [1, 0] rfl h
    · have h := h.2 c3
      refine x_aload_n (pc := 23) dX0_compress_23 0 rfl rfl ?_
      refine x_iload_n (pc := 24) dX0_compress_24 1 rfl rfl ?_
      obtain ⟨Q4, hc5, h⟩ := h
      refine x_callVI (pc := 25) 59 hc5 ok_X0_degreeOf dX0_compress_25 tb_482 ⟨⟨rfl, rfl⟩, ⟨by decide, by decide⟩, by decide, by decide⟩ (mK hG (by decide)) (mc_59 hG _) rfl (As := [.int a1]) rfl rfl (Nat.le_of_ble_eq_true rfl) (fun r6 m7 q8 => ?_)
      have h := h r6 m7 q8
      refine x_iconst (pc := 28) (v := 2) dX0_compress_28 (by decide) ?_
      refine x_icmp_ne (pc := 29) (tgt := 37) dX0_compress_29 (by decide) (fun c9 => ?_) (fun c9 => ?_)
      · have h := h.1 c9
        refine x_iinc (pc := 37) (v := (a1 + 1)) dX0_compress_37 (k := 1) rfl rfl (by decide) rfl ?_
        refine x_goto (pc := 40) (tgt := 6) dX0_compress_40 (by decide) ?_
        exact x_sub [1, 0] rfl h
      · have h := h.2 c9
        refine x_aload_n (pc := 32) dX0_compress_32 0 rfl rfl ?_
        refine x_iload_n (pc := 33) dX0_compress_33 1 rfl rfl ?_
        obtain ⟨Q10, hc11, h⟩ := h
        refine x_callVV (pc := 34) 59 hc11 ok_X0_bypass dX0_compress_34 tb_495 ⟨⟨rfl, rfl⟩, ⟨by decide, by decide⟩, by decide, by decide⟩ (mK hG (by decide)) (mc_59 hG _) rfl (As := [.int a1]) rfl rfl (Nat.le_of_ble_eq_true rfl) (fun m13 q14 => ?_)
        have h := h m13 q14
        refine x_iinc (pc := 37) (v := (a1 + 1)) dX0_compress_37 (k := 1) rfl rfl (by decide) rfl ?_
        refine x_goto (pc := 40) (tgt := 6) dX0_compress_40 (by decide) ?_
        exact x_sub [1, 0] rfl h
set_option maxRecDepth 100000 in
set_option maxHeartbeats 4000000 in
theorem t_X0_makeEdgesOld_0 {l : Launch} {G : Gx} {P : Mem → Prop} (hG : Mn G)  (mem : Mem)
    (h : XV l M_X0_makeEdgesOld G P mem 2 [(0, .ref (gA G 59)), (1, .int 0)] []) :
    XV l M_X0_makeEdgesOld G P mem 0 [(0, .ref (gA G 59))] [] := by
  refine x_iconst (pc := 0) (v := 0) dX0_makeEdgesOld_0 (by decide) ?_
  refine x_istore_n (pc := 1) dX0_makeEdgesOld_1 rfl (by decide) rfl ?_
  exact x_sub [1, 0] rfl h
set_option maxRecDepth 100000 in
set_option maxHeartbeats 4000000 in
theorem t_X0_makeEdgesOld_2 {l : Launch} {G : Gx} {P : Mem → Prop} (hG : Mn G) (a1 : Int32) (mem : Mem)
    (h : ((mem 59 0) ≤ a1 → (P mem)) ∧ (¬ (mem 59 0) ≤ a1 → (XV l M_X0_makeEdgesOld G P mem 12 [(0, .ref (gA G 59)), (1, .int a1), (2, .int 0)] []))) :
    XV l M_X0_makeEdgesOld G P mem 2 [(0, .ref (gA G 59)), (1, .int a1)] [] := by
  refine x_iload_n (pc := 2) dX0_makeEdgesOld_2 1 rfl rfl ?_
  refine x_aload_n (pc := 3) dX0_makeEdgesOld_3 0 rfl rfl ?_
  refine x_get (pc := 4) 59 0 dX0_makeEdgesOld_4 (mK hG (by decide)) (mc_59 hG _) rfl inX0 (by decide) tb_109 rfl rfl ?_
  refine x_icmp_ge (pc := 7) (tgt := 52) dX0_makeEdgesOld_7 (by decide) (fun c1 => ?_) (fun c1 => ?_)
  · have h := h.1 c1
    exact x_endV (pc := 52) dX0_makeEdgesOld_52 rfl h
  · have h := h.2 c1
    refine x_iconst (pc := 10) (v := 0) dX0_makeEdgesOld_10 (by decide) ?_
    refine x_istore_n (pc := 11) dX0_makeEdgesOld_11 rfl (by decide) rfl ?_
    exact x_sub [1, 2, 0] rfl h
set_option maxRecDepth 100000 in
set_option maxHeartbeats 4000000 in
theorem t_X0_makeEdgesOld_12 {l : Launch} {G : Gx} {P : Mem → Prop} (hG : Mn G) (a1 : Int32) (a2 : Int32) (mem : Mem)
    (h : ((mem 59 0) ≤ a2 → (XV l M_X0_makeEdgesOld G P mem 2 [(0, .ref (gA G 59)), (1, .int (a1 + 1))] [])) ∧ (¬ (mem 59 0) ≤ a2 → (vp_in a1 12 ∧ (vp_in a1 12 ∧ (vp_in a2 12 ∧ (vp_in a2 12 ∧ (XV l M_X0_makeEdgesOld G P (wr mem (64 + a1.toNatClampNeg) a2.toNatClampNeg (if (1 : Int32) < (mem (64 + a1.toNatClampNeg) a2.toNatClampNeg) then 1 else (mem (64 + a1.toNatClampNeg) a2.toNatClampNeg))) 12 [(0, .ref (gA G 59)), (1, .int a1), (2, .int (a2 + 1))] []))))))) :
    XV l M_X0_makeEdgesOld G P mem 12 [(0, .ref (gA G 59)), (1, .int a1), (2, .int a2)] [] := by
  refine x_iload_n (pc := 12) dX0_makeEdgesOld_12 2 rfl rfl ?_
  refine x_aload_n (pc := 13) dX0_makeEdgesOld_13 0 rfl rfl ?_
  refine x_get (pc := 14) 59 0 dX0_makeEdgesOld_14 (mK hG (by decide)) (mc_59 hG _) rfl inX0 (by decide) tb_109 rfl rfl ?_
  refine x_icmp_ge (pc := 17) (tgt := 46) dX0_makeEdgesOld_17 (by decide) (fun c1 => ?_) (fun c1 => ?_)
  · have h := h.1 c1
    refine x_iinc (pc := 46) (v := (a1 + 1)) dX0_makeEdgesOld_46 (k := 1) rfl rfl (by decide) rfl ?_
    refine x_goto (pc := 49) (tgt := 2) dX0_makeEdgesOld_49 (by decide) ?_
    exact x_sub [1, 0] rfl h
  · have h := h.2 c1
    refine x_aload_n (pc := 20) dX0_makeEdgesOld_20 0 rfl rfl ?_
    refine x_get (pc := 21) 59 6 dX0_makeEdgesOld_21 (mK hG (by decide)) (mc_59 hG _) rfl inX0 (by decide) tb_115 rfl rfl ?_
    refine x_iload_n (pc := 24) dX0_makeEdgesOld_24 1 rfl rfl ?_
    have n2 := h.1
    refine x_aaldR (pc := 25) 63 dX0_makeEdgesOld_25 (mK hG (by decide)) (mc_63 hG _) n2 (if_pos (vp_lt n2)) ?_
    have h := h.2
    refine x_iload_n (pc := 26) dX0_makeEdgesOld_26 2 rfl rfl ?_
    refine x_aload_n (pc := 27) dX0_makeEdgesOld_27 0 rfl rfl ?_
    refine x_get (pc := 28) 59 6 dX0_makeEdgesOld_28 (mK hG (by decide)) (mc_59 hG _) rfl inX0 (by decide) tb_115 rfl rfl ?_
    refine x_iload_n (pc := 31) dX0_makeEdgesOld_31 1 rfl rfl ?_
    have n3 := h.1
    refine x_aaldR (pc := 32) 63 dX0_makeEdgesOld_32 (mK hG (by decide)) (mc_63 hG _) n3 (if_pos (vp_lt n3)) ?_
    have h := h.2
    refine x_iload_n (pc := 33) dX0_makeEdgesOld_33 2 rfl rfl ?_
    have n4 := h.1
    refine x_iald (pc := 34) (64 + a1.toNatClampNeg) dX0_makeEdgesOld_34 (ro_K hG (vp_lt n3)) (ro_c hG (vp_lt n3) _) n4 ?_
    have h := h.2
    refine x_iconst (pc := 35) (v := 1) dX0_makeEdgesOld_35 (by decide) ?_
    refine x_mmin (pc := 36) dX0_makeEdgesOld_36 tb_494 tb_66 tb_33 tb_67 ⟨by decide, Nat.le_of_ble_eq_true rfl, by decide, by decide⟩ ?_
    have n5 := h.1
    have h := h.2
    refine x_iast (pc := 39) (64 + a1.toNatClampNeg) dX0_makeEdgesOld_39 (ro_K hG (vp_lt n2)) (ro_c hG (vp_lt n2)) n5 ?_
    refine x_iinc (pc := 40) (v := (a2 + 1)) dX0_makeEdgesOld_40 (k := 2) rfl rfl (by decide) rfl ?_
    refine x_goto (pc := 43) (tgt := 12) dX0_makeEdgesOld_43 (by decide) ?_
    exact x_sub [1, 2, 0] rfl h
set_option maxRecDepth 100000 in
set_option maxHeartbeats 4000000 in
theorem t_X0_bypass_0 {l : Launch} {G : Gx} {P : Mem → Prop} (hG : Mn G) (a1 : Int32) (mem : Mem)
    (h : ∃ Q1 : Int32 → Mem → Prop, CtI l M_X0_neighbourAfter G [.ref (gA G 59), .int a1, .int (-1)] mem Q1 ∧ ∀ (r3 : Int32) (m4 : Mem), Q1 r3 m4 → (∃ Q6 : Int32 → Mem → Prop, CtI l M_X0_neighbourAfter G [.ref (gA G 59), .int a1, .int r3] m4 Q6 ∧ ∀ (r8 : Int32) (m9 : Mem), Q6 r8 m9 → (∃ Q11 : Int32 → Mem → Prop, CtI l M_X0_isVertex G [.ref (gA G 59), .int r3] m9 Q11 ∧ ∀ (r13 : Int32) (m14 : Mem), Q11 r13 m14 → ((r13 = 0 → (P m14)) ∧ (¬ r13 = 0 → (∃ Q17 : Int32 → Mem → Prop, CtI l M_X0_isVertex G [.ref (gA G 59), .int r8] m14 Q17 ∧ ∀ (r19 : Int32) (m20 : Mem), Q17 r19 m20 → ((¬ r19 = 0 → (vp_in a1 12 ∧ (vp_in r3 12 ∧ (((m20 (64 + a1.toNatClampNeg) r3.toNatClampNeg) = 2 → (P m20)) ∧ (¬ (m20 (64 + a1.toNatClampNeg) r3.toNatClampNeg) = 2 → (vp_in a1 12 ∧ (vp_in r8 12 ∧ ((¬ (m20 (64 + a1.toNatClampNeg) r8.toNatClampNeg) = 2 → (∃ Q29 : Mem → Prop, CtV l M_X0_remove G [.ref (gA G 59), .int a1] m20 Q29 ∧ ∀ m32 : Mem, Q29 m32 → (vp_in r3 12 ∧ (vp_in r8 12 ∧ (vp_in r8 12 ∧ (vp_in r3 12 ∧ (P (wr (wr m32 (64 + r3.toNatClampNeg) r8.toNatClampNeg 2) (64 + r8.toNatClampNeg) r3.toNatClampNeg 2)))))))) ∧ ((m20 (64 + a1.toNatClampNeg) r8.toNatClampNeg) = 2 → (P m20)))))))))) ∧ (r19 = 0 → (P m20))))))))) :
    XV l M_X0_bypass G P mem 0 [(0, .ref (gA G 59)), (1, .int a1)] [] := by
  refine x_aload_n (pc := 0) dX0_bypass_0 0 rfl rfl ?_
  refine x_iload_n (pc := 1) dX0_bypass_1 1 rfl rfl ?_
  refine x_iconst (pc := 2) (v := (-1)) dX0_bypass_2 (by decide) ?_
  obtain ⟨Q1, hc2, h⟩ := h
  refine x_callVI (pc := 3) 59 hc2 ok_X0_neighbourAfter dX0_bypass_3 tb_499 ⟨⟨rfl, rfl⟩, ⟨by decide, by decide⟩, by decide, by decide⟩ (mK hG (by decide)) (mc_59 hG _) rfl (As := [.int a1, .int (-1)]) rfl rfl (Nat.le_of_ble_eq_true rfl) (fun r3 m4 q5 => ?_)
  have h := h r3 m4 q5
  refine x_istore_n (pc := 6) dX0_bypass_6 rfl (by decide) rfl ?_
  refine x_aload_n (pc := 7) dX0_bypass_7 1 rfl rfl ?_
  refine x_iload_n (pc := 8) dX0_bypass_8 2 rfl rfl ?_
  refine x_iload_n (pc := 9) dX0_bypass_9 0 rfl rfl ?_
  obtain ⟨Q6, hc7, h⟩ := h
  refine x_callVI (pc := 10) 59 hc7 ok_X0_neighbourAfter dX0_bypass_10 tb_499 ⟨⟨rfl, rfl⟩, ⟨by decide, by decide⟩, by decide, by decide⟩ (mK hG (by decide)) (mc_59 hG _) rfl (As := [.int a1, .int r3]) rfl rfl (Nat.le_of_ble_eq_true rfl) (fun r8 m9 q10 => ?_)
  have h := h r8 m9 q10
  refine x_istore_n (pc := 13) dX0_bypass_13 rfl (by decide) rfl ?_
  refine x_aload_n (pc := 14) dX0_bypass_14 2 rfl rfl ?_
  refine x_iload_n (pc := 15) dX0_bypass_15 1 rfl rfl ?_
  obtain ⟨Q11, hc12, h⟩ := h
  refine x_callVI (pc := 16) 59 hc12 ok_X0_isVertex dX0_bypass_16 tb_462 ⟨⟨rfl, rfl⟩, ⟨by decide, by decide⟩, by decide, by decide⟩ (mK hG (by decide)) (mc_59 hG _) rfl (As := [.int r3]) rfl rfl (Nat.le_of_ble_eq_true rfl) (fun r13 m14 q15 => ?_)
  have h := h r13 m14 q15
  refine x_if_eq (pc := 19) (tgt := 30) dX0_bypass_19 (by decide) (fun c16 => ?_) (fun c16 => ?_)
  · have h := h.1 c16
    exact x_endV (pc := 30) dX0_bypass_30 rfl h
  · have h := h.2 c16
    refine x_aload_n (pc := 22) dX0_bypass_22 2 rfl rfl ?_
    refine x_iload_n (pc := 23) dX0_bypass_23 0 rfl rfl ?_
    obtain ⟨Q17, hc18, h⟩ := h
    refine x_callVI (pc := 24) 59 hc18 ok_X0_isVertex dX0_bypass_24 tb_462 ⟨⟨rfl, rfl⟩, ⟨by decide, by decide⟩, by decide, by decide⟩ (mK hG (by decide)) (mc_59 hG _) rfl (As := [.int r8]) rfl rfl (Nat.le_of_ble_eq_true rfl) (fun r19 m20 q21 => ?_)
    have h := h r19 m20 q21
    refine x_if_ne (pc := 27) (tgt := 31) dX0_bypass_27 (by decide) (fun c22 => ?_) (fun c22 => ?_)
    · have h := h.1 c22
      refine x_aload_n (pc := 31) dX0_bypass_31 2 rfl rfl ?_
      refine x_get (pc := 32) 59 6 dX0_bypass_32 (mK hG (by decide)) (mc_59 hG _) rfl inX0 (by decide) tb_115 rfl rfl ?_
      refine x_iload_n (pc := 35) dX0_bypass_35 3 rfl rfl ?_
      have n23 := h.1
      refine x_aaldR (pc := 36) 63 dX0_bypass_36 (mK hG (by decide)) (mc_63 hG _) n23 (if_pos (vp_lt n23)) ?_
      have h := h.2
      refine x_iload_n (pc := 37) dX0_bypass_37 1 rfl rfl ?_
      have n24 := h.1
      refine x_iald (pc := 38) (64 + a1.toNatClampNeg) dX0_bypass_38 (ro_K hG (vp_lt n23)) (ro_c hG (vp_lt n23) _) n24 ?_
      have h := h.2
      refine x_iconst (pc := 39) (v := 2) dX0_bypass_39 (by decide) ?_
      refine x_icmp_eq (pc := 40) (tgt := 55) dX0_bypass_40 (by decide) (fun c25 => ?_) (fun c25 => ?_)
      · have h := h.1 c25
        exact x_endV (pc := 55) dX0_bypass_55 rfl h
      · have h := h.2 c25
        refine x_aload_n (pc := 43) dX0_bypass_43 2 rfl rfl ?_
        refine x_get (pc := 44) 59 6 dX0_bypass_44 (mK hG (by decide)) (mc_59 hG _) rfl inX0 (by decide) tb_115 rfl rfl ?_
        refine x_iload_n (pc := 47) dX0_bypass_47 3 rfl rfl ?_
        have n26 := h.1
        refine x_aaldR (pc := 48) 63 dX0_bypass_48 (mK hG (by decide)) (mc_63 hG _) n26 (if_pos (vp_lt n26)) ?_
        have h := h.2
        refine x_iload_n (pc := 49) dX0_bypass_49 0 rfl rfl ?_
        have n27 := h.1
        refine x_iald (pc := 50) (64 + a1.toNatClampNeg) dX0_bypass_50 (ro_K hG (vp_lt n26)) (ro_c hG (vp_lt n26) _) n27 ?_
        have h := h.2
        refine x_iconst (pc := 51) (v := 2) dX0_bypass_51 (by decide) ?_
        refine x_icmp_ne (pc := 52) (tgt := 56) dX0_bypass_52 (by decide) (fun c28 => ?_) (fun c28 => ?_)
        · have h := h.1 c28
          refine x_aload_n (pc := 56) dX0_bypass_56 2 rfl rfl ?_
          refine x_iload_n (pc := 57) dX0_bypass_57 3 rfl rfl ?_
          obtain ⟨Q29, hc30, h⟩ := h
          refine x_callVV (pc := 58) 59 hc30 ok_X0_remove dX0_bypass_58 tb_478 ⟨⟨rfl, rfl⟩, ⟨by decide, by decide⟩, by decide, by decide⟩ (mK hG (by decide)) (mc_59 hG _) rfl (As := [.int a1]) rfl rfl (Nat.le_of_ble_eq_true rfl) (fun m32 q33 => ?_)
          have h := h m32 q33
          refine x_aload_n (pc := 61) dX0_bypass_61 2 rfl rfl ?_
          refine x_get (pc := 62) 59 6 dX0_bypass_62 (mK hG (by decide)) (mc_59 hG _) rfl inX0 (by decide) tb_115 rfl rfl ?_
          refine x_iload_n (pc := 65) dX0_bypass_65 1 rfl rfl ?_
          have n34 := h.1
          refine x_aaldR (pc := 66) 63 dX0_bypass_66 (mK hG (by decide)) (mc_63 hG _) n34 (if_pos (vp_lt n34)) ?_
          have h := h.2
          refine x_iload_n (pc := 67) dX0_bypass_67 0 rfl rfl ?_
          refine x_iconst (pc := 68) (v := 2) dX0_bypass_68 (by decide) ?_
          have n35 := h.1
          have h := h.2
          refine x_iast (pc := 69) (64 + r3.toNatClampNeg) dX0_bypass_69 (ro_K hG (vp_lt n34)) (ro_c hG (vp_lt n34)) n35 ?_
          refine x_aload_n (pc := 70) dX0_bypass_70 2 rfl rfl ?_
          refine x_get (pc := 71) 59 6 dX0_bypass_71 (mK hG (by decide)) (mc_59 hG _) rfl inX0 (by decide) tb_115 rfl rfl ?_
          refine x_iload_n (pc := 74) dX0_bypass_74 0 rfl rfl ?_
          have n36 := h.1
          refine x_aaldR (pc := 75) 63 dX0_bypass_75 (mK hG (by decide)) (mc_63 hG _) n36 (if_pos (vp_lt n36)) ?_
          have h := h.2
          refine x_iload_n (pc := 76) dX0_bypass_76 1 rfl rfl ?_
          refine x_iconst (pc := 77) (v := 2) dX0_bypass_77 (by decide) ?_
          have n37 := h.1
          have h := h.2
          refine x_iast (pc := 78) (64 + r8.toNatClampNeg) dX0_bypass_78 (ro_K hG (vp_lt n36)) (ro_c hG (vp_lt n36)) n37 ?_
          exact x_endV (pc := 79) dX0_bypass_79 rfl h
        · have h := h.2 c28
          exact x_endV (pc := 55) dX0_bypass_55 rfl h
    · have h := h.2 c22
      exact x_endV (pc := 30) dX0_bypass_30 rfl h
set_option maxRecDepth 100000 in
set_option maxHeartbeats 4000000 in
theorem t_X0_neighbourAfter_0 {l : Launch} {G : Gx} {P : Int32 → Mem → Prop} (hG : Mn G) (a1 : Int32) (a2 : Int32) (mem : Mem)
    (h : XI l M_X0_neighbourAfter G P mem 4 [(0, .ref (gA G 59)), (1, .int a1), (3, .int (a2 + 1))] []) :
    XI l M_X0_neighbourAfter G P mem 0 [(0, .ref (gA G 59)), (1, .int a1), (2, .int a2)] [] := by
  refine x_iload_n (pc := 0) dX0_neighbourAfter_0 2 rfl rfl ?_
  refine x_iconst (pc := 1) (v := 1) dX0_neighbourAfter_1 (by decide) ?_
  refine x_iadd (pc := 2) dX0_neighbourAfter_2 ?_
  refine x_istore_n (pc := 3) dX0_neighbourAfter_3 rfl (by decide) rfl ?_
  exact x_sub [1, 2, 0] rfl h
set_option maxRecDepth 100000 in
set_option maxHeartbeats 4000000 in
theorem t_X0_neighbourAfter_4 {l : Launch} {G : Gx} {P : Int32 → Mem → Prop} (hG : Mn G) (a1 : Int32) (a3 : Int32) (mem : Mem)
    (h : ((mem 59 0) ≤ a3 → (P (-9) mem)) ∧ (¬ (mem 59 0) ≤ a3 → ((a3 < 0 → (XI l M_X0_neighbourAfter G P mem 4 [(0, .ref (gA G 59)), (1, .int a1), (3, .int (a3 + 1))] [])) ∧ (¬ a3 < 0 → (vp_in a1 12 ∧ (vp_in a3 12 ∧ (((mem (64 + a1.toNatClampNeg) a3.toNatClampNeg) = 0 → (XI l M_X0_neighbourAfter G P mem 4 [(0, .ref (gA G 59)), (1, .int a1), (3, .int (a3 + 1))] [])) ∧ (¬ (mem (64 + a1.toNatClampNeg) a3.toNatClampNeg) = 0 → (P a3 mem))))))))) :
    XI l M_X0_neighbourAfter G P mem 4 [(0, .ref (gA G 59)), (1, .int a1), (3, .int a3)] [] := by
  refine x_iload_n (pc := 4) dX0_neighbourAfter_4 2 rfl rfl ?_
  refine x_aload_n (pc := 5) dX0_neighbourAfter_5 0 rfl rfl ?_
  refine x_get (pc := 6) 59 0 dX0_neighbourAfter_6 (mK hG (by decide)) (mc_59 hG _) rfl inX0 (by decide) tb_109 rfl rfl ?_
  refine x_icmp_ge (pc := 9) (tgt := 35) dX0_neighbourAfter_9 (by decide) (fun c1 => ?_) (fun c1 => ?_)
  · have h := h.1 c1
    refine x_bipush (pc := 35) (v := (-9)) dX0_neighbourAfter_35 (by decide) ?_
    exact x_endI (pc := 37) dX0_neighbourAfter_37 rfl h
  · have h := h.2 c1
    refine x_iload_n (pc := 12) dX0_neighbourAfter_12 2 rfl rfl ?_
    refine x_if_lt (pc := 13) (tgt := 29) dX0_neighbourAfter_13 (by decide) (fun c2 => ?_) (fun c2 => ?_)
    · have h := h.1 c2
      refine x_iinc (pc := 29) (v := (a3 + 1)) dX0_neighbourAfter_29 (k := 2) rfl rfl (by decide) rfl ?_
      refine x_goto (pc := 32) (tgt := 4) dX0_neighbourAfter_32 (by decide) ?_
      exact x_sub [1, 2, 0] rfl h
    · have h := h.2 c2
      refine x_aload_n (pc := 16) dX0_neighbourAfter_16 0 rfl rfl ?_
      refine x_get (pc := 17) 59 6 dX0_neighbourAfter_17 (mK hG (by decide)) (mc_59 hG _) rfl inX0 (by decide) tb_115 rfl rfl ?_
      refine x_iload_n (pc := 20) dX0_neighbourAfter_20 1 rfl rfl ?_
      have n3 := h.1
      refine x_aaldR (pc := 21) 63 dX0_neighbourAfter_21 (mK hG (by decide)) (mc_63 hG _) n3 (if_pos (vp_lt n3)) ?_
      have h := h.2
      refine x_iload_n (pc := 22) dX0_neighbourAfter_22 2 rfl rfl ?_
      have n4 := h.1
      refine x_iald (pc := 23) (64 + a1.toNatClampNeg) dX0_neighbourAfter_23 (ro_K hG (vp_lt n3)) (ro_c hG (vp_lt n3) _) n4 ?_
      have h := h.2
      refine x_if_eq (pc := 24) (tgt := 29) dX0_neighbourAfter_24 (by decide) (fun c5 => ?_) (fun c5 => ?_)
      · have h := h.1 c5
        refine x_iinc (pc := 29) (v := (a3 + 1)) dX0_neighbourAfter_29 (k := 2) rfl rfl (by decide) rfl ?_
        refine x_goto (pc := 32) (tgt := 4) dX0_neighbourAfter_32 (by decide) ?_
        exact x_sub [1, 2, 0] rfl h
      · have h := h.2 c5
        refine x_iload_n (pc := 27) dX0_neighbourAfter_27 2 rfl rfl ?_
        exact x_endI (pc := 28) dX0_neighbourAfter_28 rfl h
set_option maxRecDepth 100000 in
set_option maxHeartbeats 4000000 in
theorem t_X0_degreeOf_0 {l : Launch} {G : Gx} {P : Int32 → Mem → Prop} (hG : Mn G) (a1 : Int32) (mem : Mem)
    (h : XI l M_X0_degreeOf G P mem 4 [(0, .ref (gA G 59)), (1, .int a1), (2, .int 0), (3, .int 0)] []) :
    XI l M_X0_degreeOf G P mem 0 [(0, .ref (gA G 59)), (1, .int a1)] [] := by
  refine x_iconst (pc := 0) (v := 0) dX0_degreeOf_0 (by decide) ?_
  refine x_istore_n (pc := 1) dX0_degreeOf_1 rfl (by decide) rfl ?_
  refine x_iconst (pc := 2) (v := 0) dX0_degreeOf_2 (by decide) ?_
  refine x_istore_n (pc := 3) dX0_degreeOf_3 rfl (by decide) rfl ?_
  exact x_sub [2, 3, 1, 0] rfl h
set_option maxRecDepth 100000 in
set_option maxHeartbeats 4000000 in
theorem t_X0_degreeOf_4 {l : Launch} {G : Gx} {P : Int32 → Mem → Prop} (hG : Mn G) (a1 : Int32) (a2 : Int32) (a3 : Int32) (mem : Mem)
    (h : ((mem 59 0) ≤ a3 → (P a2 mem)) ∧ (¬ (mem 59 0) ≤ a3 → (vp_in a1 12 ∧ (vp_in a3 12 ∧ (((mem (64 + a1.toNatClampNeg) a3.toNatClampNeg) = 0 → (XI l M_X0_degreeOf G P mem 4 [(0, .ref (gA G 59)), (1, .int a1), (2, .int a2), (3, .int (a3 + 1))] [])) ∧ (¬ (mem (64 + a1.toNatClampNeg) a3.toNatClampNeg) = 0 → (XI l M_X0_degreeOf G P mem 4 [(0, .ref (gA G 59)), (1, .int a1), (2, .int (a2 + 1)), (3, .int (a3 + 1))] []))))))) :
    XI l M_X0_degreeOf G P mem 4 [(0, .ref (gA G 59)), (1, .int a1), (2, .int a2), (3, .int a3)] [] := by
  refine x_iload_n (pc := 4) dX0_degreeOf_4 3 rfl rfl ?_
  refine x_aload_n (pc := 5) dX0_degreeOf_5 0 rfl rfl ?_
  refine x_get (pc := 6) 59 0 dX0_degreeOf_6 (mK hG (by decide)) (mc_59 hG _) rfl inX0 (by decide) tb_109 rfl rfl ?_
  refine x_icmp_ge (pc := 9) (tgt := 32) dX0_degreeOf_9 (by decide) (fun c1 => ?_) (fun c1 => ?_)
  · have h := h.1 c1
    refine x_iload_n (pc := 32) dX0_degreeOf_32 2 rfl rfl ?_
    exact x_endI (pc := 33) dX0_degreeOf_33 rfl h
  · have h := h.2 c1
    refine x_aload_n (pc := 12) dX0_degreeOf_12 0 rfl rfl ?_
    refine x_get (pc := 13) 59 6 dX0_degreeOf_13 (mK hG (by decide)) (mc_59 hG _) rfl inX0 (by decide) tb_115 rfl rfl ?_
    refine x_iload_n (pc := 16) dX0_degreeOf_16 1 rfl rfl ?_
    have n2 := h.1
    refine x_aaldR (pc := 17) 63 dX0_degreeOf_17 (mK hG (by decide)) (mc_63 hG _) n2 (if_pos (vp_lt n2)) ?_
    have h := h.2
    refine x_iload_n (pc := 18) dX0_degreeOf_18 3 rfl rfl ?_
    have n3 := h.1
    refine x_iald (pc := 19) (64 + a1.toNatClampNeg) dX0_degreeOf_19 (ro_K hG (vp_lt n2)) (ro_c hG (vp_lt n2) _) n3 ?_
    have h := h.2
    refine x_if_eq (pc := 20) (tgt := 26) dX0_degreeOf_20 (by decide) (fun c4 => ?_) (fun c4 => ?_)
    · have h := h.1 c4
      refine x_iinc (pc := 26) (v := (a3 + 1)) dX0_degreeOf_26 (k := 3) rfl rfl (by decide) rfl ?_
      refine x_goto (pc := 29) (tgt := 4) dX0_degreeOf_29 (by decide) ?_
      exact x_sub [1, 2, 3, 0] rfl h
    · have h := h.2 c4
      refine x_iinc (pc := 23) (v := (a2 + 1)) dX0_degreeOf_23 (k := 2) rfl rfl (by decide) rfl ?_
      refine x_iinc (pc := 26) (v := (a3 + 1)) dX0_degreeOf_26 (k := 3) rfl rfl (by decide) rfl ?_
      refine x_goto (pc := 29) (tgt := 4) dX0_degreeOf_29 (by decide) ?_
      exact x_sub [2, 3, 1, 0] rfl h
set_option maxRecDepth 100000 in
set_option maxHeartbeats 4000000 in
theorem t_X0_remove_0 {l : Launch} {G : Gx} {P : Mem → Prop} (hG : Mn G) (a1 : Int32) (mem : Mem)
    (h : vp_in a1 12 ∧ (vp_in a1 12 ∧ (XV l M_X0_remove G P (wr (wr (wr mem 60 a1.toNatClampNeg 0) 62 a1.toNatClampNeg ((wr mem 60 a1.toNatClampNeg 0) 59 2)) 59 1 (((wr (wr mem 60 a1.toNatClampNeg 0) 62 a1.toNatClampNeg ((wr mem 60 a1.toNatClampNeg 0) 59 2)) 59 1) - 1)) 29 [(0, .ref (gA G 59)), (1, .int a1), (2, .int 0)] []))) :
    XV l M_X0_remove G P mem 0 [(0, .ref (gA G 59)), (1, .int a1)] [] := by
  refine x_aload_n (pc := 0) dX0_remove_0 0 rfl rfl ?_
  refine x_get (pc := 1) 59 3 dX0_remove_1 (mK hG (by decide)) (mc_59 hG _) rfl inX0 (by decide) tb_112 rfl rfl ?_
  refine x_iload_n (pc := 4) dX0_remove_4 1 rfl rfl ?_
  refine x_iconst (pc := 5) (v := 0) dX0_remove_5 (by decide) ?_
  have n1 := h.1
  have h := h.2
  refine x_zast (pc := 6) 60 dX0_remove_6 (mK hG (by decide)) (mc_60 hG) n1 (Or.inl rfl) ?_
  refine x_aload_n (pc := 7) dX0_remove_7 0 rfl rfl ?_
  refine x_get (pc := 8) 59 5 dX0_remove_8 (mK hG (by decide)) (mc_59 hG _) rfl inX0 (by decide) tb_114 rfl rfl ?_
  refine x_iload_n (pc := 11) dX0_remove_11 1 rfl rfl ?_
  refine x_aload_n (pc := 12) dX0_remove_12 0 rfl rfl ?_
  refine x_get (pc := 13) 59 2 dX0_remove_13 (mK hG (by decide)) (mc_59 hG _) rfl inX0 (by decide) tb_111 rfl rfl ?_
  have n2 := h.1
  have h := h.2
  refine x_iast (pc := 16) 62 dX0_remove_16 (mK hG (by decide)) (mc_62 hG) n2 ?_
  refine x_aload_n (pc := 17) dX0_remove_17 0 rfl rfl ?_
  refine x_dup (pc := 18) dX0_remove_18 rfl ?_
  refine x_get (pc := 19) 59 1 dX0_remove_19 (mK hG (by decide)) (mc_59 hG _) rfl inX0 (by decide) tb_110 rfl rfl ?_
  refine x_iconst (pc := 22) (v := 1) dX0_remove_22 (by decide) ?_
  refine x_isub (pc := 23) dX0_remove_23 ?_
  refine x_put (pc := 24) 59 1 dX0_remove_24 (mK hG (by decide)) (mc_59 hG) rfl inX0 tyX0 tyX0_ok nmX0 (by decide) tb_110 rfl rfl (by decide +kernel) (fun _ => Nat.le_of_ble_eq_true rfl) (fun _ _ => rfl) ?_
  refine x_iconst (pc := 27) (v := 0) dX0_remove_27 (by decide) ?_
  refine x_istore_n (pc := 28) dX0_remove_28 rfl (by decide) rfl ?_
  exact x_sub [1, 2, 0] rfl h
set_option maxRecDepth 100000 in
set_option maxHeartbeats 4000000 in
theorem t_X0_remove_29 {l : Launch} {G : Gx} {P : Mem → Prop} (hG : Mn G) (a1 : Int32) (a2 : Int32) (mem : Mem)
    (h : ((mem 59 0) ≤ a2 → (P mem)) ∧ (¬ (mem 59 0) ≤ a2 → (vp_in a2 12 ∧ (vp_in a1 12 ∧ (vp_in a1 12 ∧ (vp_in a2 12 ∧ (XV l M_X0_remove G P (wr (wr mem (64 + a2.toNatClampNeg) a1.toNatClampNeg 0) (64 + a1.toNatClampNeg) a2.toNatClampNeg 0) 29 [(0, .ref (gA G 59)), (1, .int a1), (2, .int (a2 + 1))] []))))))) :
    XV l M_X0_remove G P mem 29 [(0, .ref (gA G 59)), (1, .int a1), (2, .int a2)] [] := by
  refine x_iload_n (pc := 29) dX0_remove_29 2 rfl rfl ?_
  refine x_aload_n (pc := 30) dX0_remove_30 0 rfl rfl ?_
  refine x_get (pc := 31) 59 0 dX0_remove_31 (mK hG (by decide)) (mc_59 hG _) rfl inX0 (by decide) tb_109 rfl rfl ?_
  refine x_icmp_ge (pc := 34) (tgt := 61) dX0_remove_34 (by decide) (fun c1 => ?_) (fun c1 => ?_)
  · have h := h.1 c1
    exact x_endV (pc := 61) dX0_remove_61 rfl h
  · have h := h.2 c1
    refine x_aload_n (pc := 37) dX0_remove_37 0 rfl rfl ?_
    refine x_get (pc := 38) 59 6 dX0_remove_38 (mK hG (by decide)) (mc_59 hG _) rfl inX0 (by decide) tb_115 rfl rfl ?_
    refine x_iload_n (pc := 41) dX0_remove_41 2 rfl rfl ?_
    have n2 := h.1
    refine x_aaldR (pc := 42) 63 dX0_remove_42 (mK hG (by decide)) (mc_63 hG _) n2 (if_pos (vp_lt n2)) ?_
    have h := h.2
    refine x_iload_n (pc := 43) dX0_remove_43 1 rfl rfl ?_
    refine x_iconst (pc := 44) (v := 0) dX0_remove_44 (by decide) ?_
    have n3 := h.1
    have h := h.2
    refine x_iast (pc := 45) (64 + a2.toNatClampNeg) dX0_remove_45 (ro_K hG (vp_lt n2)) (ro_c hG (vp_lt n2)) n3 ?_
    refine x_aload_n (pc := 46) dX0_remove_46 0 rfl rfl ?_
    refine x_get (pc := 47) 59 6 dX0_remove_47 (mK hG (by decide)) (mc_59 hG _) rfl inX0 (by decide) tb_115 rfl rfl ?_
    refine x_iload_n (pc := 50) dX0_remove_50 1 rfl rfl ?_
    have n4 := h.1
    refine x_aaldR (pc := 51) 63 dX0_remove_51 (mK hG (by decide)) (mc_63 hG _) n4 (if_pos (vp_lt n4)) ?_
    have h := h.2
    refine x_iload_n (pc := 52) dX0_remove_52 2 rfl rfl ?_
    refine x_iconst (pc := 53) (v := 0) dX0_remove_53 (by decide) ?_
    have n5 := h.1
    have h := h.2
    refine x_iast (pc := 54) (64 + a1.toNatClampNeg) dX0_remove_54 (ro_K hG (vp_lt n4)) (ro_c hG (vp_lt n4)) n5 ?_
    refine x_iinc (pc := 55) (v := (a2 + 1)) dX0_remove_55 (k := 2) rfl rfl (by decide) rfl ?_
    refine x_goto (pc := 58) (tgt := 29) dX0_remove_58 (by decide) ?_
    exact x_sub [1, 2, 0] rfl h
