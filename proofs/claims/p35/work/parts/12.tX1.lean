set_option maxRecDepth 100000 in
set_option maxHeartbeats 4000000 in
theorem t_J7_fill_53178_0 {l : Launch} {G : Gx} {P : Mem → Prop} {r n : Nat} (hr : Ia G r n) (a1 : Int32) (mem : Mem)
    (h : XV l M_J7_fill_53178 G P mem 5 [(0, .ref (gA G r)), (1, .int a1), (2, .int 0), (3, .int (Int32.ofNat n))] []) :
    XV l M_J7_fill_53178 G P mem 0 [(0, .ref (gA G r)), (1, .int a1)] [] := by
  refine x_iconst (pc := 0) (v := 0) dJ7_fill_53178_0 (by decide) ?_
  refine x_istore_n (pc := 1) dJ7_fill_53178_1 rfl (by decide) rfl ?_
  refine x_aload_n (pc := 2) dJ7_fill_53178_2 1 rfl rfl ?_
  refine x_alen (pc := 3) r dJ7_fill_53178_3 hr.1 (hr.2 _) rfl ?_
  refine x_istore_n (pc := 4) dJ7_fill_53178_4 rfl (by decide) rfl ?_
  exact x_sub [2, 3, 1, 0] rfl h
set_option maxRecDepth 100000 in
set_option maxHeartbeats 4000000 in
theorem t_J7_fill_53178_5 {l : Launch} {G : Gx} {P : Mem → Prop} {r n : Nat} (hr : Ia G r n) (a1 : Int32) (a2 : Int32) (a3 : Int32) (mem : Mem)
    (h : (a3 ≤ a2 → (P mem)) ∧ (¬ a3 ≤ a2 → (vp_in a2 n ∧ (XV l M_J7_fill_53178 G P (wr mem r a2.toNatClampNeg a1) 5 [(0, .ref (gA G r)), (1, .int a1), (2, .int (a2 + 1)), (3, .int a3)] [])))) :
    XV l M_J7_fill_53178 G P mem 5 [(0, .ref (gA G r)), (1, .int a1), (2, .int a2), (3, .int a3)] [] := by
  refine x_iload_n (pc := 5) dJ7_fill_53178_5 2 rfl rfl ?_
  refine x_iload_n (pc := 6) dJ7_fill_53178_6 3 rfl rfl ?_
  refine x_icmp_ge (pc := 7) (tgt := 20) dJ7_fill_53178_7 (by decide) (fun c1 => ?_) (fun c1 => ?_)
  · have h := h.1 c1
    exact x_endV (pc := 20) dJ7_fill_53178_20 rfl h
  · have h := h.2 c1
    refine x_aload_n (pc := 10) dJ7_fill_53178_10 0 rfl rfl ?_
    refine x_iload_n (pc := 11) dJ7_fill_53178_11 2 rfl rfl ?_
    refine x_iload_n (pc := 12) dJ7_fill_53178_12 1 rfl rfl ?_
    have n2 := h.1
    have h := h.2
    refine x_iast (pc := 13) r dJ7_fill_53178_13 hr.1 hr.2 n2 ?_
    refine x_iinc (pc := 14) (v := (a2 + 1)) dJ7_fill_53178_14 (k := 2) rfl rfl (by decide) rfl ?_
    refine x_goto (pc := 17) (tgt := 5) dJ7_fill_53178_17 (by decide) ?_
    exact x_sub [1, 2, 0, 3] rfl h
set_option maxRecDepth 100000 in
set_option maxHeartbeats 4000000 in
theorem t_X1_reset_0 {l : Launch} {G : Gx} {P : Mem → Prop} {f : Nat} (hf : Fo G f) (a1 : Int32) (mem : Mem)
    (h : ∃ Q1 : Mem → Prop, CtV l M_J7_fill_53178 G [.ref (gA G (f + 1)), .int 1] (wr mem f 0 (if (1 : Int32) < (if 12 < a1 then 12 else a1) then (if 12 < a1 then 12 else a1) else 1)) Q1 ∧ ∀ m4 : Mem, Q1 m4 → (XV l M_X1_reset G P m4 24 [(0, .ref (gA G f)), (2, .int 0)] [])) :
    XV l M_X1_reset G P mem 0 [(0, .ref (gA G f)), (1, .int a1)] [] := by
  refine x_aload_n (pc := 0) dX1_reset_0 0 rfl rfl ?_
  refine x_iconst (pc := 1) (v := 1) dX1_reset_1 (by decide) ?_
  refine x_iload_n (pc := 2) dX1_reset_2 1 rfl rfl ?_
  refine x_bipush (pc := 3) (v := 12) dX1_reset_3 (by decide) ?_
  refine x_mmin (pc := 5) dX1_reset_5 tb_65 tb_66 tb_33 tb_67 ⟨by decide, Nat.le_of_ble_eq_true rfl, by decide, by decide⟩ ?_
  refine x_mmax (pc := 8) dX1_reset_8 tb_68 tb_69 tb_33 tb_70 ⟨by decide, Nat.le_of_ble_eq_true rfl, by decide, by decide⟩ ?_
  refine x_put (pc := 11) f 0 dX1_reset_11 (Fo_K0 hf) (Fo_c0 hf) rfl inX1 tyX1 tyX1_ok nmX1 (by decide) tb_74 rfl rfl (by decide +kernel) (fun _ => Nat.le_of_ble_eq_true rfl) (fun _ _ => rfl) ?_
  refine x_aload_n (pc := 14) dX1_reset_14 0 rfl rfl ?_
  refine x_get (pc := 15) f 1 dX1_reset_15 (Fo_K0 hf) (Fo_c0 hf _) rfl inX1 (by decide) tb_75 rfl rfl ?_
  refine x_iconst (pc := 18) (v := 1) dX1_reset_18 (by decide) ?_
  obtain ⟨Q1, hc2, h⟩ := h
  refine x_callSV (pc := 19) hc2 ok_J7_fill_53178 dX1_reset_19 tb_71 ⟨⟨rfl, rfl⟩, ⟨by decide, by decide⟩, by decide, by decide⟩ rfl rfl (Nat.le_of_ble_eq_true rfl) (fun m4 q5 => ?_)
  have h := h m4 q5
  refine x_iconst (pc := 22) (v := 0) dX1_reset_22 (by decide) ?_
  refine x_istore_n (pc := 23) dX1_reset_23 rfl (by decide) rfl ?_
  exact x_sub [1, 0] rfl h
set_option maxRecDepth 100000 in
set_option maxHeartbeats 4000000 in
theorem t_X1_reset_24 {l : Launch} {G : Gx} {P : Mem → Prop} {f : Nat} (hf : Fo G f) (a2 : Int32) (mem : Mem)
    (h : (12 ≤ a2 → (P mem)) ∧ (¬ 12 ≤ a2 → (vp_in a2 12 ∧ (∃ Q3 : Mem → Prop, CtV l M_J7_fill_53178 G [.ref (gA G (f + 3 + a2.toNatClampNeg)), .int 0] mem Q3 ∧ ∀ m6 : Mem, Q3 m6 → (XV l M_X1_reset G P m6 24 [(0, .ref (gA G f)), (2, .int (a2 + 1))] []))))) :
    XV l M_X1_reset G P mem 24 [(0, .ref (gA G f)), (2, .int a2)] [] := by
  refine x_iload_n (pc := 24) dX1_reset_24 1 rfl rfl ?_
  refine x_bipush (pc := 25) (v := 12) dX1_reset_25 (by decide) ?_
  refine x_icmp_ge (pc := 27) (tgt := 46) dX1_reset_27 (by decide) (fun c1 => ?_) (fun c1 => ?_)
  · have h := h.1 c1
    exact x_endV (pc := 46) dX1_reset_46 rfl h
  · have h := h.2 c1
    refine x_aload_n (pc := 30) dX1_reset_30 0 rfl rfl ?_
    refine x_get (pc := 31) f 2 dX1_reset_31 (Fo_K0 hf) (Fo_c0 hf _) rfl inX1 (by decide) tb_76 rfl rfl ?_
    refine x_iload_n (pc := 34) dX1_reset_34 1 rfl rfl ?_
    have n2 := h.1
    refine x_aaldR (pc := 35) (f + 2) dX1_reset_35 (Fo_K (i := 2) hf (by decide)) (Fo_c2 hf _) n2 (if_pos (vp_lt n2)) ?_
    have h := h.2
    refine x_iconst (pc := 36) (v := 0) dX1_reset_36 (by decide) ?_
    obtain ⟨Q3, hc4, h⟩ := h
    refine x_callSV (pc := 37) hc4 ok_J7_fill_53178 dX1_reset_37 tb_71 ⟨⟨rfl, rfl⟩, ⟨by decide, by decide⟩, by decide, by decide⟩ rfl rfl (Nat.le_of_ble_eq_true rfl) (fun m6 q7 => ?_)
    have h := h m6 q7
    refine x_iinc (pc := 40) (v := (a2 + 1)) dX1_reset_40 (k := 1) rfl rfl (by decide) rfl ?_
    refine x_goto (pc := 43) (tgt := 24) dX1_reset_43 (by decide) ?_
    exact x_sub [1, 0] rfl h
set_option maxRecDepth 100000 in
set_option maxHeartbeats 4000000 in
theorem t_X1_become_0 {l : Launch} {G : Gx} {P : Mem → Prop} {f : Nat} (hf : Fo G f) {g : Nat} (hg : Fo G g)  (mem : Mem)
    (h : XV l M_X1_become G P (wrA (wr mem f 0 (mem g 0)) (f + 1) (va_cpy ((wr mem f 0 (mem g 0)) (g + 1)) ((wr mem f 0 (mem g 0)) (f + 1)) 0 0 12)) 25 [(0, .ref (gA G f)), (1, .ref (gA G g)), (2, .int 0)] []) :
    XV l M_X1_become G P mem 0 [(0, .ref (gA G f)), (1, .ref (gA G g))] [] := by
  refine x_aload_n (pc := 0) dX1_become_0 0 rfl rfl ?_
  refine x_aload_n (pc := 1) dX1_become_1 1 rfl rfl ?_
  refine x_get (pc := 2) g 0 dX1_become_2 (Fo_K0 hg) (Fo_c0 hg _) rfl inX1 (by decide) tb_74 rfl rfl ?_
  refine x_put (pc := 5) f 0 dX1_become_5 (Fo_K0 hf) (Fo_c0 hf) rfl inX1 tyX1 tyX1_ok nmX1 (by decide) tb_74 rfl rfl (by decide +kernel) (fun _ => Nat.le_of_ble_eq_true rfl) (fun _ _ => rfl) ?_
  refine x_aload_n (pc := 8) dX1_become_8 1 rfl rfl ?_
  refine x_get (pc := 9) g 1 dX1_become_9 (Fo_K0 hg) (Fo_c0 hg _) rfl inX1 (by decide) tb_75 rfl rfl ?_
  refine x_iconst (pc := 12) (v := 0) dX1_become_12 (by decide) ?_
  refine x_aload_n (pc := 13) dX1_become_13 0 rfl rfl ?_
  refine x_get (pc := 14) f 1 dX1_become_14 (Fo_K0 hf) (Fo_c0 hf _) rfl inX1 (by decide) tb_75 rfl rfl ?_
  refine x_iconst (pc := 17) (v := 0) dX1_become_17 (by decide) ?_
  refine x_bipush (pc := 18) (v := 12) dX1_become_18 (by decide) ?_
  refine x_copy (pc := 20) (n0 := 12) (n1 := 12) (g + 1) (f + 1) dX1_become_20 tb_324 tb_326 tb_325 tb_40 (Fo_K (i := 1) hg (by decide)) (Fo_K (i := 1) hf (by decide)) (Fo_c1 hg _) (Fo_c1 hf) (by decide) ⟨by decide, Nat.le_of_ble_eq_true rfl⟩ ?_
  refine x_iconst (pc := 23) (v := 0) dX1_become_23 (by decide) ?_
  refine x_istore_n (pc := 24) dX1_become_24 rfl (by decide) rfl ?_
  exact x_sub [1, 2, 0] rfl h
set_option maxRecDepth 100000 in
set_option maxHeartbeats 4000000 in
theorem t_X1_become_25 {l : Launch} {G : Gx} {P : Mem → Prop} {f : Nat} (hf : Fo G f) {g : Nat} (hg : Fo G g) (a2 : Int32) (mem : Mem)
    (h : (12 ≤ a2 → (P mem)) ∧ (¬ 12 ≤ a2 → (vp_in a2 12 ∧ (vp_in a2 12 ∧ (XV l M_X1_become G P (wrA mem (f + 3 + a2.toNatClampNeg) (va_cpy (mem (g + 3 + a2.toNatClampNeg)) (mem (f + 3 + a2.toNatClampNeg)) 0 0 12)) 25 [(0, .ref (gA G f)), (1, .ref (gA G g)), (2, .int (a2 + 1))] []))))) :
    XV l M_X1_become G P mem 25 [(0, .ref (gA G f)), (1, .ref (gA G g)), (2, .int a2)] [] := by
  refine x_iload_n (pc := 25) dX1_become_25 2 rfl rfl ?_
  refine x_bipush (pc := 26) (v := 12) dX1_become_26 (by decide) ?_
  refine x_icmp_ge (pc := 28) (tgt := 56) dX1_become_28 (by decide) (fun c1 => ?_) (fun c1 => ?_)
  · have h := h.1 c1
    exact x_endV (pc := 56) dX1_become_56 rfl h
  · have h := h.2 c1
    refine x_aload_n (pc := 31) dX1_become_31 1 rfl rfl ?_
    refine x_get (pc := 32) g 2 dX1_become_32 (Fo_K0 hg) (Fo_c0 hg _) rfl inX1 (by decide) tb_76 rfl rfl ?_
    refine x_iload_n (pc := 35) dX1_become_35 2 rfl rfl ?_
    have n2 := h.1
    refine x_aaldR (pc := 36) (g + 2) dX1_become_36 (Fo_K (i := 2) hg (by decide)) (Fo_c2 hg _) n2 (if_pos (vp_lt n2)) ?_
    have h := h.2
    refine x_iconst (pc := 37) (v := 0) dX1_become_37 (by decide) ?_
    refine x_aload_n (pc := 38) dX1_become_38 0 rfl rfl ?_
    refine x_get (pc := 39) f 2 dX1_become_39 (Fo_K0 hf) (Fo_c0 hf _) rfl inX1 (by decide) tb_76 rfl rfl ?_
    refine x_iload_n (pc := 42) dX1_become_42 2 rfl rfl ?_
    have n3 := h.1
    refine x_aaldR (pc := 43) (f + 2) dX1_become_43 (Fo_K (i := 2) hf (by decide)) (Fo_c2 hf _) n3 (if_pos (vp_lt n3)) ?_
    have h := h.2
    refine x_iconst (pc := 44) (v := 0) dX1_become_44 (by decide) ?_
    refine x_bipush (pc := 45) (v := 12) dX1_become_45 (by decide) ?_
    refine x_copy (pc := 47) (n0 := 12) (n1 := 12) (g + 3 + a2.toNatClampNeg) (f + 3 + a2.toNatClampNeg) dX1_become_47 tb_324 tb_326 tb_325 tb_40 (Fo_K3 hg (vp_lt n2)) (Fo_K3 hf (vp_lt n3)) (Fo_c3 hg (vp_lt n2) _) (Fo_c3 hf (vp_lt n3)) (by decide) ⟨by decide, Nat.le_of_ble_eq_true rfl⟩ ?_
    refine x_iinc (pc := 50) (v := (a2 + 1)) dX1_become_50 (k := 2) rfl rfl (by decide) rfl ?_
    refine x_goto (pc := 53) (tgt := 25) dX1_become_53 (by decide) ?_
    exact x_sub [1, 2, 0] rfl h
set_option maxRecDepth 100000 in
set_option maxHeartbeats 4000000 in
theorem t_X1_vertices_0 {l : Launch} {G : Gx} {P : Int32 → Mem → Prop} {f : Nat} (hf : Fo G f)  (mem : Mem)
    (h : P (mem f 0) mem) :
    XI l M_X1_vertices G P mem 0 [(0, .ref (gA G f))] [] := by
  refine x_aload_n (pc := 0) dX1_vertices_0 0 rfl rfl ?_
  refine x_get (pc := 1) f 0 dX1_vertices_1 (Fo_K0 hf) (Fo_c0 hf _) rfl inX1 (by decide) tb_74 rfl rfl ?_
  exact x_endI (pc := 4) dX1_vertices_4 rfl h
set_option maxRecDepth 100000 in
set_option maxHeartbeats 4000000 in
theorem t_X1_hasVertex_0 {l : Launch} {G : Gx} {P : Int32 → Mem → Prop} {f : Nat} (hf : Fo G f) (a1 : Int32) (mem : Mem)
    (h : (a1 < 0 → (P 0 mem)) ∧ (¬ a1 < 0 → (((mem f 0) ≤ a1 → (P 0 mem)) ∧ (¬ (mem f 0) ≤ a1 → (P 1 mem))))) :
    XI l M_X1_hasVertex G P mem 0 [(0, .ref (gA G f)), (1, .int a1)] [] := by
  refine x_iload_n (pc := 0) dX1_hasVertex_0 1 rfl rfl ?_
  refine x_if_lt (pc := 1) (tgt := 16) dX1_hasVertex_1 (by decide) (fun c1 => ?_) (fun c1 => ?_)
  · have h := h.1 c1
    refine x_iconst (pc := 16) (v := 0) dX1_hasVertex_16 (by decide) ?_
    exact x_endZ (pc := 17) dX1_hasVertex_17 rfl (Or.inl rfl) h
  · have h := h.2 c1
    refine x_iload_n (pc := 4) dX1_hasVertex_4 1 rfl rfl ?_
    refine x_aload_n (pc := 5) dX1_hasVertex_5 0 rfl rfl ?_
    refine x_get (pc := 6) f 0 dX1_hasVertex_6 (Fo_K0 hf) (Fo_c0 hf _) rfl inX1 (by decide) tb_74 rfl rfl ?_
    refine x_icmp_ge (pc := 9) (tgt := 16) dX1_hasVertex_9 (by decide) (fun c2 => ?_) (fun c2 => ?_)
    · have h := h.1 c2
      refine x_iconst (pc := 16) (v := 0) dX1_hasVertex_16 (by decide) ?_
      exact x_endZ (pc := 17) dX1_hasVertex_17 rfl (Or.inl rfl) h
    · have h := h.2 c2
      refine x_iconst (pc := 12) (v := 1) dX1_hasVertex_12 (by decide) ?_
      refine x_goto (pc := 13) (tgt := 17) dX1_hasVertex_13 (by decide) ?_
      exact x_endZ (pc := 17) dX1_hasVertex_17 rfl (Or.inr rfl) h
set_option maxRecDepth 100000 in
set_option maxHeartbeats 4000000 in
theorem t_X1_hasVertices_0 {l : Launch} {G : Gx} {P : Int32 → Mem → Prop} {f : Nat} (hf : Fo G f) (a1 : Int32) (a2 : Int32) (mem : Mem)
    (h : (a1 < 0 → (P 0 mem)) ∧ (¬ a1 < 0 → (((mem f 0) ≤ a1 → (P 0 mem)) ∧ (¬ (mem f 0) ≤ a1 → ((a2 < 0 → (P 0 mem)) ∧ (¬ a2 < 0 → (((mem f 0) ≤ a2 → (P 0 mem)) ∧ (¬ (mem f 0) ≤ a2 → (P 1 mem))))))))) :
    XI l M_X1_hasVertices G P mem 0 [(0, .ref (gA G f)), (1, .int a1), (2, .int a2)] [] := by
  refine x_iload_n (pc := 0) dX1_hasVertices_0 1 rfl rfl ?_
  refine x_if_lt (pc := 1) (tgt := 28) dX1_hasVertices_1 (by decide) (fun c1 => ?_) (fun c1 => ?_)
  · have h := h.1 c1
    refine x_iconst (pc := 28) (v := 0) dX1_hasVertices_28 (by decide) ?_
    exact x_endZ (pc := 29) dX1_hasVertices_29 rfl (Or.inl rfl) h
  · have h := h.2 c1
    refine x_iload_n (pc := 4) dX1_hasVertices_4 1 rfl rfl ?_
    refine x_aload_n (pc := 5) dX1_hasVertices_5 0 rfl rfl ?_
    refine x_get (pc := 6) f 0 dX1_hasVertices_6 (Fo_K0 hf) (Fo_c0 hf _) rfl inX1 (by decide) tb_74 rfl rfl ?_
    refine x_icmp_ge (pc := 9) (tgt := 28) dX1_hasVertices_9 (by decide) (fun c2 => ?_) (fun c2 => ?_)
    · have h := h.1 c2
      refine x_iconst (pc := 28) (v := 0) dX1_hasVertices_28 (by decide) ?_
      exact x_endZ (pc := 29) dX1_hasVertices_29 rfl (Or.inl rfl) h
    · have h := h.2 c2
      refine x_iload_n (pc := 12) dX1_hasVertices_12 2 rfl rfl ?_
      refine x_if_lt (pc := 13) (tgt := 28) dX1_hasVertices_13 (by decide) (fun c3 => ?_) (fun c3 => ?_)
      · have h := h.1 c3
        refine x_iconst (pc := 28) (v := 0) dX1_hasVertices_28 (by decide) ?_
        exact x_endZ (pc := 29) dX1_hasVertices_29 rfl (Or.inl rfl) h
      · have h := h.2 c3
        refine x_iload_n (pc := 16) dX1_hasVertices_16 2 rfl rfl ?_
        refine x_aload_n (pc := 17) dX1_hasVertices_17 0 rfl rfl ?_
        refine x_get (pc := 18) f 0 dX1_hasVertices_18 (Fo_K0 hf) (Fo_c0 hf _) rfl inX1 (by decide) tb_74 rfl rfl ?_
        refine x_icmp_ge (pc := 21) (tgt := 28) dX1_hasVertices_21 (by decide) (fun c4 => ?_) (fun c4 => ?_)
        · have h := h.1 c4
          refine x_iconst (pc := 28) (v := 0) dX1_hasVertices_28 (by decide) ?_
          exact x_endZ (pc := 29) dX1_hasVertices_29 rfl (Or.inl rfl) h
        · have h := h.2 c4
          refine x_iconst (pc := 24) (v := 1) dX1_hasVertices_24 (by decide) ?_
          refine x_goto (pc := 25) (tgt := 29) dX1_hasVertices_25 (by decide) ?_
          exact x_endZ (pc := 29) dX1_hasVertices_29 rfl (Or.inr rfl) h
set_option maxRecDepth 100000 in
set_option maxHeartbeats 4000000 in
theorem t_X1_weightOf_0 {l : Launch} {G : Gx} {P : Int32 → Mem → Prop} {f : Nat} (hf : Fo G f) (a1 : Int32) (mem : Mem)
    (h : ∃ Q1 : Int32 → Mem → Prop, CtI l M_X1_hasVertex G [.ref (gA G f), .int a1] mem Q1 ∧ ∀ (r3 : Int32) (m4 : Mem), Q1 r3 m4 → ((r3 = 0 → (P 0 m4)) ∧ (¬ r3 = 0 → (vp_in a1 12 ∧ (P (m4 (f + 1) a1.toNatClampNeg) m4))))) :
    XI l M_X1_weightOf G P mem 0 [(0, .ref (gA G f)), (1, .int a1)] [] := by
  refine x_aload_n (pc := 0) dX1_weightOf_0 0 rfl rfl ?_
  refine x_iload_n (pc := 1) dX1_weightOf_1 1 rfl rfl ?_
  obtain ⟨Q1, hc2, h⟩ := h
  refine x_callVI (pc := 2) f hc2 ok_X1_hasVertex dX1_weightOf_2 tb_246 ⟨⟨rfl, rfl⟩, ⟨by decide, by decide⟩, by decide, by decide⟩ (Fo_K0 hf) (Fo_c0 hf _) rfl (As := [.int a1]) rfl rfl (Nat.le_of_ble_eq_true rfl) (fun r3 m4 q5 => ?_)
  have h := h r3 m4 q5
  refine x_if_eq (pc := 5) (tgt := 17) dX1_weightOf_5 (by decide) (fun c6 => ?_) (fun c6 => ?_)
  · have h := h.1 c6
    refine x_iconst (pc := 17) (v := 0) dX1_weightOf_17 (by decide) ?_
    exact x_endI (pc := 18) dX1_weightOf_18 rfl h
  · have h := h.2 c6
    refine x_aload_n (pc := 8) dX1_weightOf_8 0 rfl rfl ?_
    refine x_get (pc := 9) f 1 dX1_weightOf_9 (Fo_K0 hf) (Fo_c0 hf _) rfl inX1 (by decide) tb_75 rfl rfl ?_
    refine x_iload_n (pc := 12) dX1_weightOf_12 1 rfl rfl ?_
    have n7 := h.1
    refine x_iald (pc := 13) (f + 1) dX1_weightOf_13 (Fo_K (i := 1) hf (by decide)) (Fo_c1 hf _) n7 ?_
    have h := h.2
    refine x_goto (pc := 14) (tgt := 18) dX1_weightOf_14 (by decide) ?_
    exact x_endI (pc := 18) dX1_weightOf_18 rfl h
set_option maxRecDepth 100000 in
set_option maxHeartbeats 4000000 in
theorem t_X1_putWeight_0 {l : Launch} {G : Gx} {P : Mem → Prop} {f : Nat} (hf : Fo G f) (a1 : Int32) (a2 : Int32) (mem : Mem)
    (h : ∃ Q1 : Int32 → Mem → Prop, CtI l M_X1_hasVertex G [.ref (gA G f), .int a1] mem Q1 ∧ ∀ (r3 : Int32) (m4 : Mem), Q1 r3 m4 → ((r3 = 0 → (P m4)) ∧ (¬ r3 = 0 → (vp_in a1 12 ∧ (P (wr m4 (f + 1) a1.toNatClampNeg a2)))))) :
    XV l M_X1_putWeight G P mem 0 [(0, .ref (gA G f)), (1, .int a1), (2, .int a2)] [] := by
  refine x_aload_n (pc := 0) dX1_putWeight_0 0 rfl rfl ?_
  refine x_iload_n (pc := 1) dX1_putWeight_1 1 rfl rfl ?_
  obtain ⟨Q1, hc2, h⟩ := h
  refine x_callVI (pc := 2) f hc2 ok_X1_hasVertex dX1_putWeight_2 tb_246 ⟨⟨rfl, rfl⟩, ⟨by decide, by decide⟩, by decide, by decide⟩ (Fo_K0 hf) (Fo_c0 hf _) rfl (As := [.int a1]) rfl rfl (Nat.le_of_ble_eq_true rfl) (fun r3 m4 q5 => ?_)
  have h := h r3 m4 q5
  refine x_if_eq (pc := 5) (tgt := 15) dX1_putWeight_5 (by decide) (fun c6 => ?_) (fun c6 => ?_)
  · have h := h.1 c6
    exact x_endV (pc := 15) dX1_putWeight_15 rfl h
  · have h := h.2 c6
    refine x_aload_n (pc := 8) dX1_putWeight_8 0 rfl rfl ?_
    refine x_get (pc := 9) f 1 dX1_putWeight_9 (Fo_K0 hf) (Fo_c0 hf _) rfl inX1 (by decide) tb_75 rfl rfl ?_
    refine x_iload_n (pc := 12) dX1_putWeight_12 1 rfl rfl ?_
    refine x_iload_n (pc := 13) dX1_putWeight_13 2 rfl rfl ?_
    have n7 := h.1
    have h := h.2
    refine x_iast (pc := 14) (f + 1) dX1_putWeight_14 (Fo_K (i := 1) hf (by decide)) (Fo_c1 hf) n7 ?_
    exact x_endV (pc := 15) dX1_putWeight_15 rfl h
set_option maxRecDepth 100000 in
set_option maxHeartbeats 4000000 in
theorem t_X1_hasEdge_0 {l : Launch} {G : Gx} {P : Int32 → Mem → Prop} {f : Nat} (hf : Fo G f) (a1 : Int32) (a2 : Int32) (mem : Mem)
    (h : ∃ Q1 : Int32 → Mem → Prop, CtI l M_X1_edgeBetween G [.ref (gA G f), .int a1, .int a2] mem Q1 ∧ ∀ (r3 : Int32) (m4 : Mem), Q1 r3 m4 → ((r3 = 0 → (P 0 m4)) ∧ (¬ r3 = 0 → (P 1 m4)))) :
    XI l M_X1_hasEdge G P mem 0 [(0, .ref (gA G f)), (1, .int a1), (2, .int a2)] [] := by
  refine x_aload_n (pc := 0) dX1_hasEdge_0 0 rfl rfl ?_
  refine x_iload_n (pc := 1) dX1_hasEdge_1 1 rfl rfl ?_
  refine x_iload_n (pc := 2) dX1_hasEdge_2 2 rfl rfl ?_
  obtain ⟨Q1, hc2, h⟩ := h
  refine x_callVI (pc := 3) f hc2 ok_X1_edgeBetween dX1_hasEdge_3 tb_271 ⟨⟨rfl, rfl⟩, ⟨by decide, by decide⟩, by decide, by decide⟩ (Fo_K0 hf) (Fo_c0 hf _) rfl (As := [.int a1, .int a2]) rfl rfl (Nat.le_of_ble_eq_true rfl) (fun r3 m4 q5 => ?_)
  have h := h r3 m4 q5
  refine x_if_eq (pc := 6) (tgt := 13) dX1_hasEdge_6 (by decide) (fun c6 => ?_) (fun c6 => ?_)
  · have h := h.1 c6
    refine x_iconst (pc := 13) (v := 0) dX1_hasEdge_13 (by decide) ?_
    exact x_endZ (pc := 14) dX1_hasEdge_14 rfl (Or.inl rfl) h
  · have h := h.2 c6
    refine x_iconst (pc := 9) (v := 1) dX1_hasEdge_9 (by decide) ?_
    refine x_goto (pc := 10) (tgt := 14) dX1_hasEdge_10 (by decide) ?_
    exact x_endZ (pc := 14) dX1_hasEdge_14 rfl (Or.inr rfl) h
set_option maxRecDepth 100000 in
set_option maxHeartbeats 4000000 in
theorem t_X1_edgeBetween_0 {l : Launch} {G : Gx} {P : Int32 → Mem → Prop} {f : Nat} (hf : Fo G f) (a1 : Int32) (a2 : Int32) (mem : Mem)
    (h : ∃ Q1 : Int32 → Mem → Prop, CtI l M_X1_hasVertices G [.ref (gA G f), .int a1, .int a2] mem Q1 ∧ ∀ (r3 : Int32) (m4 : Mem), Q1 r3 m4 → ((r3 = 0 → (P 0 m4)) ∧ (¬ r3 = 0 → (vp_in a1 12 ∧ (vp_in a2 12 ∧ (P (m4 (f + 3 + a1.toNatClampNeg) a2.toNatClampNeg) m4)))))) :
    XI l M_X1_edgeBetween G P mem 0 [(0, .ref (gA G f)), (1, .int a1), (2, .int a2)] [] := by
  refine x_aload_n (pc := 0) dX1_edgeBetween_0 0 rfl rfl ?_
  refine x_iload_n (pc := 1) dX1_edgeBetween_1 1 rfl rfl ?_
  refine x_iload_n (pc := 2) dX1_edgeBetween_2 2 rfl rfl ?_
  obtain ⟨Q1, hc2, h⟩ := h
  refine x_callVI (pc := 3) f hc2 ok_X1_hasVertices dX1_edgeBetween_3 tb_275 ⟨⟨rfl, rfl⟩, ⟨by decide, by decide⟩, by decide, by decide⟩ (Fo_K0 hf) (Fo_c0 hf _) rfl (As := [.int a1, .int a2]) rfl rfl (Nat.le_of_ble_eq_true rfl) (fun r3 m4 q5 => ?_)
  have h := h r3 m4 q5
  refine x_if_eq (pc := 6) (tgt := 20) dX1_edgeBetween_6 (by decide) (fun c6 => ?_) (fun c6 => ?_)
  · have h := h.1 c6
    refine x_iconst (pc := 20) (v := 0) dX1_edgeBetween_20 (by decide) ?_
    exact x_endI (pc := 21) dX1_edgeBetween_21 rfl h
  · have h := h.2 c6
    refine x_aload_n (pc := 9) dX1_edgeBetween_9 0 rfl rfl ?_
    refine x_get (pc := 10) f 2 dX1_edgeBetween_10 (Fo_K0 hf) (Fo_c0 hf _) rfl inX1 (by decide) tb_76 rfl rfl ?_
    refine x_iload_n (pc := 13) dX1_edgeBetween_13 1 rfl rfl ?_
    have n7 := h.1
    refine x_aaldR (pc := 14) (f + 2) dX1_edgeBetween_14 (Fo_K (i := 2) hf (by decide)) (Fo_c2 hf _) n7 (if_pos (vp_lt n7)) ?_
    have h := h.2
    refine x_iload_n (pc := 15) dX1_edgeBetween_15 2 rfl rfl ?_
    have n8 := h.1
    refine x_iald (pc := 16) (f + 3 + a1.toNatClampNeg) dX1_edgeBetween_16 (Fo_K3 hf (vp_lt n7)) (Fo_c3 hf (vp_lt n7) _) n8 ?_
    have h := h.2
    refine x_goto (pc := 17) (tgt := 21) dX1_edgeBetween_17 (by decide) ?_
    exact x_endI (pc := 21) dX1_edgeBetween_21 rfl h
set_option maxRecDepth 100000 in
set_option maxHeartbeats 4000000 in
theorem t_X1_putEdge_0 {l : Launch} {G : Gx} {P : Mem → Prop} {f : Nat} (hf : Fo G f) (a1 : Int32) (a2 : Int32) (a3 : Int32) (mem : Mem)
    (h : ∃ Q1 : Int32 → Mem → Prop, CtI l M_X1_hasVertices G [.ref (gA G f), .int a1, .int a2] mem Q1 ∧ ∀ (r3 : Int32) (m4 : Mem), Q1 r3 m4 → ((r3 = 0 → (P m4)) ∧ (¬ r3 = 0 → (vp_in a1 12 ∧ (vp_in a2 12 ∧ (vp_in a2 12 ∧ (vp_in a1 12 ∧ (P (wr (wr m4 (f + 3 + a1.toNatClampNeg) a2.toNatClampNeg a3) (f + 3 + a2.toNatClampNeg) a1.toNatClampNeg a3))))))))) :
    XV l M_X1_putEdge G P mem 0 [(0, .ref (gA G f)), (1, .int a1), (2, .int a2), (3, .int a3)] [] := by
  refine x_aload_n (pc := 0) dX1_putEdge_0 0 rfl rfl ?_
  refine x_iload_n (pc := 1) dX1_putEdge_1 1 rfl rfl ?_
  refine x_iload_n (pc := 2) dX1_putEdge_2 2 rfl rfl ?_
  obtain ⟨Q1, hc2, h⟩ := h
  refine x_callVI (pc := 3) f hc2 ok_X1_hasVertices dX1_putEdge_3 tb_275 ⟨⟨rfl, rfl⟩, ⟨by decide, by decide⟩, by decide, by decide⟩ (Fo_K0 hf) (Fo_c0 hf _) rfl (As := [.int a1, .int a2]) rfl rfl (Nat.le_of_ble_eq_true rfl) (fun r3 m4 q5 => ?_)
  have h := h r3 m4 q5
  refine x_if_eq (pc := 6) (tgt := 27) dX1_putEdge_6 (by decide) (fun c6 => ?_) (fun c6 => ?_)
  · have h := h.1 c6
    exact x_endV (pc := 27) dX1_putEdge_27 rfl h
  · have h := h.2 c6
    refine x_aload_n (pc := 9) dX1_putEdge_9 0 rfl rfl ?_
    refine x_get (pc := 10) f 2 dX1_putEdge_10 (Fo_K0 hf) (Fo_c0 hf _) rfl inX1 (by decide) tb_76 rfl rfl ?_
    refine x_iload_n (pc := 13) dX1_putEdge_13 1 rfl rfl ?_
    have n7 := h.1
    refine x_aaldR (pc := 14) (f + 2) dX1_putEdge_14 (Fo_K (i := 2) hf (by decide)) (Fo_c2 hf _) n7 (if_pos (vp_lt n7)) ?_
    have h := h.2
    refine x_iload_n (pc := 15) dX1_putEdge_15 2 rfl rfl ?_
    refine x_iload_n (pc := 16) dX1_putEdge_16 3 rfl rfl ?_
    have n8 := h.1
    have h := h.2
    refine x_iast (pc := 17) (f + 3 + a1.toNatClampNeg) dX1_putEdge_17 (Fo_K3 hf (vp_lt n7)) (Fo_c3 hf (vp_lt n7)) n8 ?_
    refine x_aload_n (pc := 18) dX1_putEdge_18 0 rfl rfl ?_
    refine x_get (pc := 19) f 2 dX1_putEdge_19 (Fo_K0 hf) (Fo_c0 hf _) rfl inX1 (by decide) tb_76 rfl rfl ?_
    refine x_iload_n (pc := 22) dX1_putEdge_22 2 rfl rfl ?_
    have n9 := h.1
    refine x_aaldR (pc := 23) (f + 2) dX1_putEdge_23 (Fo_K (i := 2) hf (by decide)) (Fo_c2 hf _) n9 (if_pos (vp_lt n9)) ?_
    have h := h.2
    refine x_iload_n (pc := 24) dX1_putEdge_24 1 rfl rfl ?_
    refine x_iload_n (pc := 25) dX1_putEdge_25 3 rfl rfl ?_
    have n10 := h.1
    have h := h.2
    refine x_iast (pc := 26) (f + 3 + a2.toNatClampNeg) dX1_putEdge_26 (Fo_K3 hf (vp_lt n9)) (Fo_c3 hf (vp_lt n9)) n10 ?_
    exact x_endV (pc := 27) dX1_putEdge_27 rfl h
set_option maxRecDepth 100000 in
set_option maxHeartbeats 4000000 in
theorem t_X1_edgeCount_0 {l : Launch} {G : Gx} {P : Int32 → Mem → Prop} {f : Nat} (hf : Fo G f)  (mem : Mem)
    (h : XI l M_X1_edgeCount G P mem 4 [(0, .ref (gA G f)), (1, .int 0), (2, .int 0)] []) :
    XI l M_X1_edgeCount G P mem 0 [(0, .ref (gA G f))] [] := by
  refine x_iconst (pc := 0) (v := 0) dX1_edgeCount_0 (by decide) ?_
  refine x_istore_n (pc := 1) dX1_edgeCount_1 rfl (by decide) rfl ?_
  refine x_iconst (pc := 2) (v := 0) dX1_edgeCount_2 (by decide) ?_
  refine x_istore_n (pc := 3) dX1_edgeCount_3 rfl (by decide) rfl ?_
  exact x_sub [2, 1, 0] rfl h
set_option maxRecDepth 100000 in
set_option maxHeartbeats 4000000 in
theorem t_X1_edgeCount_4 {l : Launch} {G : Gx} {P : Int32 → Mem → Prop} {f : Nat} (hf : Fo G f) (a1 : Int32) (a2 : Int32) (mem : Mem)
    (h : ((mem f 0) ≤ a2 → (P a1 mem)) ∧ (¬ (mem f 0) ≤ a2 → (XI l M_X1_edgeCount G P mem 16 [(0, .ref (gA G f)), (1, .int a1), (2, .int a2), (3, .int (a2 + 1))] []))) :
    XI l M_X1_edgeCount G P mem 4 [(0, .ref (gA G f)), (1, .int a1), (2, .int a2)] [] := by
  refine x_iload_n (pc := 4) dX1_edgeCount_4 2 rfl rfl ?_
  refine x_aload_n (pc := 5) dX1_edgeCount_5 0 rfl rfl ?_
  refine x_get (pc := 6) f 0 dX1_edgeCount_6 (Fo_K0 hf) (Fo_c0 hf _) rfl inX1 (by decide) tb_74 rfl rfl ?_
  refine x_icmp_ge (pc := 9) (tgt := 48) dX1_edgeCount_9 (by decide) (fun c1 => ?_) (fun c1 => ?_)
  · have h := h.1 c1
    refine x_iload_n (pc := 48) dX1_edgeCount_48 1 rfl rfl ?_
    exact x_endI (pc := 49) dX1_edgeCount_49 rfl h
  · have h := h.2 c1
    refine x_iload_n (pc := 12) dX1_edgeCount_12 2 rfl rfl ?_
    refine x_iconst (pc := 13) (v := 1) dX1_edgeCount_13 (by decide) ?_
    refine x_iadd (pc := 14) dX1_edgeCount_14 ?_
    refine x_istore_n (pc := 15) dX1_edgeCount_15 rfl (by decide) rfl ?_
    exact x_sub [1, 2, 3, 0] rfl h
set_option maxRecDepth 100000 in
set_option maxHeartbeats 4000000 in
theorem t_X1_edgeCount_16 {l : Launch} {G : Gx} {P : Int32 → Mem → Prop} {f : Nat} (hf : Fo G f) (a1 : Int32) (a2 : Int32) (a3 : Int32) (mem : Mem)
    (h : ((mem f 0) ≤ a3 → (XI l M_X1_edgeCount G P mem 4 [(0, .ref (gA G f)), (1, .int a1), (2, .int (a2 + 1))] [])) ∧ (¬ (mem f 0) ≤ a3 → (∃ Q2 : Int32 → Mem → Prop, CtI l M_X1_hasEdge G [.ref (gA G f), .int a2, .int a3] mem Q2 ∧ ∀ (r4 : Int32) (m5 : Mem), Q2 r4 m5 → ((r4 = 0 → (XI l M_X1_edgeCount G P m5 16 [(0, .ref (gA G f)), (1, .int a1), (2, .int a2), (3, .int (a3 + 1))] [])) ∧ (¬ r4 = 0 → (XI l M_X1_edgeCount G P m5 16 [(0, .ref (gA G f)), (1, .int (a1 + 1)), (2, .int a2), (3, .int (a3 + 1))] [])))))) :
    XI l M_X1_edgeCount G P mem 16 [(0, .ref (gA G f)), (1, .int a1), (2, .int a2), (3, .int a3)] [] := by
  refine x_iload_n (pc := 16) dX1_edgeCount_16 3 rfl rfl ?_
  refine x_aload_n (pc := 17) dX1_edgeCount_17 0 rfl rfl ?_
  refine x_get (pc := 18) f 0 dX1_edgeCount_18 (Fo_K0 hf) (Fo_c0 hf _) rfl inX1 (by decide) tb_74 rfl rfl ?_
  refine x_icmp_ge (pc := 21) (tgt := 42) dX1_edgeCount_21 (by decide) (fun c1 => ?_) (fun c1 => ?_)
  · have h := h.1 c1
    refine x_iinc (pc := 42) (v := (a2 + 1)) dX1_edgeCount_42 (k := 2) rfl rfl (by decide) rfl ?_
    refine x_goto (pc := 45) (tgt := 4) dX1_edgeCount_45 (by decide) ?_
    exact x_sub [1, 2, 0] rfl h
  · have h := h.2 c1
    refine x_aload_n (pc := 24) dX1_edgeCount_24 0 rfl rfl ?_
    refine x_iload_n (pc := 25) dX1_edgeCount_25 2 rfl rfl ?_
    refine x_iload_n (pc := 26) dX1_edgeCount_26 3 rfl rfl ?_
    obtain ⟨Q2, hc3, h⟩ := h
    refine x_callVI (pc := 27) f hc3 ok_X1_hasEdge dX1_edgeCount_27 tb_336 ⟨⟨rfl, rfl⟩, ⟨by decide, by decide⟩, by decide, by decide⟩ (Fo_K0 hf) (Fo_c0 hf _) rfl (As := [.int a2, .int a3]) rfl rfl (Nat.le_of_ble_eq_true rfl) (fun r4 m5 q6 => ?_)
    have h := h r4 m5 q6
    refine x_if_eq (pc := 30) (tgt := 36) dX1_edgeCount_30 (by decide) (fun c7 => ?_) (fun c7 => ?_)
    · have h := h.1 c7
      refine x_iinc (pc := 36) (v := (a3 + 1)) dX1_edgeCount_36 (k := 3) rfl rfl (by decide) rfl ?_
      refine x_goto (pc := 39) (tgt := 16) dX1_edgeCount_39 (by decide) ?_
      exact x_sub [1, 2, 3, 0] rfl h
    · have h := h.2 c7
      refine x_iinc (pc := 33) (v := (a1 + 1)) dX1_edgeCount_33 (k := 1) rfl rfl (by decide) rfl ?_
      refine x_iinc (pc := 36) (v := (a3 + 1)) dX1_edgeCount_36 (k := 3) rfl rfl (by decide) rfl ?_
      refine x_goto (pc := 39) (tgt := 16) dX1_edgeCount_39 (by decide) ?_
      exact x_sub [2, 1, 3, 0] rfl h
