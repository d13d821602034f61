set_option maxRecDepth 100000 in
set_option maxHeartbeats 4000000 in
theorem t_X2_size_0 {l : Launch} {G : Gx} {P : Int32 → Mem → Prop} (hG : Mn G)  (mem : Mem)
    (h : P (mem 79 2) mem) :
    XI l M_X2_size G P mem 0 [(0, .ref (gA G 79))] [] := by
  refine x_aload_n (pc := 0) dX2_size_0 0 rfl rfl ?_
  refine x_get (pc := 1) 79 2 dX2_size_1 (mK hG (by decide)) (mc_79 hG _) rfl inX2 (by decide) tb_162 rfl rfl ?_
  exact x_endI (pc := 4) dX2_size_4 rfl h
set_option maxRecDepth 100000 in
set_option maxHeartbeats 4000000 in
theorem t_X2_remember_0 {l : Launch} {G : Gx} {P : Mem → Prop} (hG : Mn G) {g : Nat} (hg : Fo G g)  (mem : Mem)
    (h : vp_in (mem 79 1) 14 ∧ (∃ Q2 : Mem → Prop, CtV l M_X1_become G [.ref (gA G (81 + 15 * (mem 79 1).toNatClampNeg)), .ref (gA G g)] mem Q2 ∧ ∀ m5 : Mem, Q2 m5 → (∀ m7 : Mem, m7 = (wr m5 79 1 (((m5 79 1) + 1) - ((m5 79 1) + 1) / 14 * 14)) → (∀ m9 : Mem, m9 = (wr m7 79 2 (if 14 < ((m7 79 2) + 1) then 14 else ((m7 79 2) + 1))) → (P m9))))) :
    XV l M_X2_remember G P mem 0 [(0, .ref (gA G 79)), (1, .ref (gA G g))] [] := by
  refine x_aload_n (pc := 0) dX2_remember_0 0 rfl rfl ?_
  refine x_get (pc := 1) 79 0 dX2_remember_1 (mK hG (by decide)) (mc_79 hG _) rfl inX2 (by decide) tb_160 rfl rfl ?_
  refine x_aload_n (pc := 4) dX2_remember_4 0 rfl rfl ?_
  refine x_get (pc := 5) 79 1 dX2_remember_5 (mK hG (by decide)) (mc_79 hG _) rfl inX2 (by decide) tb_161 rfl rfl ?_
  have n1 := h.1
  refine x_aaldF (pc := 8) 80 dX2_remember_8 (mK hG (by decide)) (mc_80 hG _) n1 (if_pos (vp_lt n1)) ?_
  have h := h.2
  refine x_aload_n (pc := 9) dX2_remember_9 1 rfl rfl ?_
  obtain ⟨Q2, hc3, h⟩ := h
  refine x_callVV (pc := 10) (81 + 15 * (mem 79 1).toNatClampNeg) hc3 ok_X1_become dX2_remember_10 tb_320 ⟨⟨rfl, rfl⟩, ⟨by decide, by decide⟩, by decide, by decide⟩ (Fo_K0 (Fo_hist hG (vp_lt n1))) (Fo_c0 (Fo_hist hG (vp_lt n1)) _) rfl (As := [.ref (gA G g)]) rfl rfl (Nat.le_of_ble_eq_true rfl) (fun m5 q6 => ?_)
  have h := h m5 q6
  refine x_aload_n (pc := 13) dX2_remember_13 0 rfl rfl ?_
  refine x_aload_n (pc := 14) dX2_remember_14 0 rfl rfl ?_
  refine x_get (pc := 15) 79 1 dX2_remember_15 (mK hG (by decide)) (mc_79 hG _) rfl inX2 (by decide) tb_161 rfl rfl ?_
  refine x_iconst (pc := 18) (v := 1) dX2_remember_18 (by decide) ?_
  refine x_iadd (pc := 19) dX2_remember_19 ?_
  refine x_bipush (pc := 20) (v := 14) dX2_remember_20 (by decide) ?_
  refine x_irem (pc := 22) dX2_remember_22 (by decide) ?_
  refine x_put (pc := 23) 79 1 dX2_remember_23 (mK hG (by decide)) (mc_79 hG) rfl inX2 tyX2 tyX2_ok nmX2 (by decide) tb_161 rfl rfl (by decide +kernel) (fun _ => Nat.le_of_ble_eq_true rfl) (fun _ _ => rfl) ?_
  obtain ⟨m7, e8⟩ : ∃ z, z = (wr m5 79 1 (((m5 79 1) + 1) - ((m5 79 1) + 1) / 14 * 14)) := ⟨_, rfl⟩
  refine x_mem e8.symm ?_
  have h := h m7 e8
  refine x_aload_n (pc := 26) dX2_remember_26 0 rfl rfl ?_
  refine x_aload_n (pc := 27) dX2_remember_27 0 rfl rfl ?_
  refine x_get (pc := 28) 79 2 dX2_remember_28 (mK hG (by decide)) (mc_79 hG _) rfl inX2 (by decide) tb_162 rfl rfl ?_
  refine x_iconst (pc := 31) (v := 1) dX2_remember_31 (by decide) ?_
  refine x_iadd (pc := 32) dX2_remember_32 ?_
  refine x_bipush (pc := 33) (v := 14) dX2_remember_33 (by decide) ?_
  refine x_mmin (pc := 35) dX2_remember_35 tb_327 tb_66 tb_33 tb_67 ⟨by decide, Nat.le_of_ble_eq_true rfl, by decide, by decide⟩ ?_
  refine x_put (pc := 38) 79 2 dX2_remember_38 (mK hG (by decide)) (mc_79 hG) rfl inX2 tyX2 tyX2_ok nmX2 (by decide) tb_162 rfl rfl (by decide +kernel) (fun _ => Nat.le_of_ble_eq_true rfl) (fun _ _ => rfl) ?_
  obtain ⟨m9, e10⟩ : ∃ z, z = (wr m7 79 2 (if 14 < ((m7 79 2) + 1) then 14 else ((m7 79 2) + 1))) := ⟨_, rfl⟩
  refine x_mem e10.symm ?_
  have h := h m9 e10
  exact x_endV (pc := 41) dX2_remember_41 rfl h
set_option maxRecDepth 100000 in
set_option maxHeartbeats 4000000 in
theorem t_X2_takeBack_0 {l : Launch} {G : Gx} {P : Int32 → Mem → Prop} (hG : Mn G) {g : Nat} (hg : Fo G g)  (mem : Mem)
    (h : (¬ (mem 79 2) = 0 → (∀ m2 : Mem, m2 = (wr mem 79 1 ((((mem 79 1) + 14) - 1) - (((mem 79 1) + 14) - 1) / 14 * 14)) → (∀ m4 : Mem, m4 = (wr m2 79 2 ((m2 79 2) - 1)) → (vp_in (m4 79 1) 14 ∧ (∃ Q7 : Mem → Prop, CtV l M_X1_become G [.ref (gA G g), .ref (gA G (81 + 15 * (m4 79 1).toNatClampNeg))] m4 Q7 ∧ ∀ m10 : Mem, Q7 m10 → (P 1 m10)))))) ∧ ((mem 79 2) = 0 → (P 0 mem))) :
    XI l M_X2_takeBack G P mem 0 [(0, .ref (gA G 79)), (1, .ref (gA G g))] [] := by
  refine x_aload_n (pc := 0) dX2_takeBack_0 0 rfl rfl ?_
  refine x_get (pc := 1) 79 2 dX2_takeBack_1 (mK hG (by decide)) (mc_79 hG _) rfl inX2 (by decide) tb_162 rfl rfl ?_
  refine x_if_ne (pc := 4) (tgt := 9) dX2_takeBack_4 (by decide) (fun c1 => ?_) (fun c1 => ?_)
  · have h := h.1 c1
    refine x_aload_n (pc := 9) dX2_takeBack_9 0 rfl rfl ?_
    refine x_aload_n (pc := 10) dX2_takeBack_10 0 rfl rfl ?_
    refine x_get (pc := 11) 79 1 dX2_takeBack_11 (mK hG (by decide)) (mc_79 hG _) rfl inX2 (by decide) tb_161 rfl rfl ?_
    refine x_bipush (pc := 14) (v := 14) dX2_takeBack_14 (by decide) ?_
    refine x_iadd (pc := 16) dX2_takeBack_16 ?_
    refine x_iconst (pc := 17) (v := 1) dX2_takeBack_17 (by decide) ?_
    refine x_isub (pc := 18) dX2_takeBack_18 ?_
    refine x_bipush (pc := 19) (v := 14) dX2_takeBack_19 (by decide) ?_
    refine x_irem (pc := 21) dX2_takeBack_21 (by decide) ?_
    refine x_put (pc := 22) 79 1 dX2_takeBack_22 (mK hG (by decide)) (mc_79 hG) rfl inX2 tyX2 tyX2_ok nmX2 (by decide) tb_161 rfl rfl (by decide +kernel) (fun _ => Nat.le_of_ble_eq_true rfl) (fun _ _ => rfl) ?_
    obtain ⟨m2, e3⟩ : ∃ z, z = (wr mem 79 1 ((((mem 79 1) + 14) - 1) - (((mem 79 1) + 14) - 1) / 14 * 14)) := ⟨_, rfl⟩
    refine x_mem e3.symm ?_
    have h := h m2 e3
    refine x_aload_n (pc := 25) dX2_takeBack_25 0 rfl rfl ?_
    refine x_dup (pc := 26) dX2_takeBack_26 rfl ?_
    refine x_get (pc := 27) 79 2 dX2_takeBack_27 (mK hG (by decide)) (mc_79 hG _) rfl inX2 (by decide) tb_162 rfl rfl ?_
    refine x_iconst (pc := 30) (v := 1) dX2_takeBack_30 (by decide) ?_
    refine x_isub (pc := 31) dX2_takeBack_31 ?_
    refine x_put (pc := 32) 79 2 dX2_takeBack_32 (mK hG (by decide)) (mc_79 hG) rfl inX2 tyX2 tyX2_ok nmX2 (by decide) tb_162 rfl rfl (by decide +kernel) (fun _ => Nat.le_of_ble_eq_true rfl) (fun _ _ => rfl) ?_
    obtain ⟨m4, e5⟩ : ∃ z, z = (wr m2 79 2 ((m2 79 2) - 1)) := ⟨_, rfl⟩
    refine x_mem e5.symm ?_
    have h := h m4 e5
    refine x_aload_n (pc := 35) dX2_takeBack_35 1 rfl rfl ?_
    refine x_aload_n (pc := 36) dX2_takeBack_36 0 rfl rfl ?_
    refine x_get (pc := 37) 79 0 dX2_takeBack_37 (mK hG (by decide)) (mc_79 hG _) rfl inX2 (by decide) tb_160 rfl rfl ?_
    refine x_aload_n (pc := 40) dX2_takeBack_40 0 rfl rfl ?_
    refine x_get (pc := 41) 79 1 dX2_takeBack_41 (mK hG (by decide)) (mc_79 hG _) rfl inX2 (by decide) tb_161 rfl rfl ?_
    have n6 := h.1
    refine x_aaldF (pc := 44) 80 dX2_takeBack_44 (mK hG (by decide)) (mc_80 hG _) n6 (if_pos (vp_lt n6)) ?_
    have h := h.2
    obtain ⟨Q7, hc8, h⟩ := h
    refine x_callVV (pc := 45) g hc8 ok_X1_become dX2_takeBack_45 tb_320 ⟨⟨rfl, rfl⟩, ⟨by decide, by decide⟩, by decide, by decide⟩ (Fo_K0 hg) (Fo_c0 hg _) rfl (As := [.ref (gA G (81 + 15 * (m4 79 1).toNatClampNeg))]) rfl rfl (Nat.le_of_ble_eq_true rfl) (fun m10 q11 => ?_)
    have h := h m10 q11
    refine x_iconst (pc := 48) (v := 1) dX2_takeBack_48 (by decide) ?_
    exact x_endZ (pc := 49) dX2_takeBack_49 rfl (Or.inr rfl) h
  · have h := h.2 c1
    refine x_iconst (pc := 7) (v := 0) dX2_takeBack_7 (by decide) ?_
    exact x_endZ (pc := 8) dX2_takeBack_8 rfl (Or.inl rfl) h
set_option maxRecDepth 100000 in
set_option maxHeartbeats 4000000 in
theorem t_X2_forget_0 {l : Launch} {G : Gx} {P : Mem → Prop} (hG : Mn G)  (mem : Mem)
    (h : P (wr mem 79 2 0)) :
    XV l M_X2_forget G P mem 0 [(0, .ref (gA G 79))] [] := by
  refine x_aload_n (pc := 0) dX2_forget_0 0 rfl rfl ?_
  refine x_iconst (pc := 1) (v := 0) dX2_forget_1 (by decide) ?_
  refine x_put (pc := 2) 79 2 dX2_forget_2 (mK hG (by decide)) (mc_79 hG) rfl inX2 tyX2 tyX2_ok nmX2 (by decide) tb_162 rfl rfl (by decide +kernel) (fun _ => Nat.le_of_ble_eq_true rfl) (fun _ _ => rfl) ?_
  exact x_endV (pc := 5) dX2_forget_5 rfl h
set_option maxRecDepth 100000 in
set_option maxHeartbeats 4000000 in
theorem t_X3_store_0 {l : Launch} {G : Gx} {P : Int32 → Mem → Prop} (hG : Mn G) (a1 : Int32) (a2 : Int32) (a3 : Int32) (mem : Mem)
    (h : vp_in (mem 291 3) 6 ∧ (∀ m2 : Mem, m2 = (wr mem 292 ((mem 291 3).toNatClampNeg) a1) → (vp_in (m2 291 3) 6 ∧ (∀ m5 : Mem, m5 = (wr m2 293 ((m2 291 3).toNatClampNeg) a2) → (vp_in (m5 291 3) 6 ∧ (∀ m8 : Mem, m8 = (wr m5 294 ((m5 291 3).toNatClampNeg) a3) → (∀ m10 : Mem, m10 = (wr m8 291 3 (((m8 291 3) + 1) - ((m8 291 3) + 1) / 6 * 6)) → (∀ m12 : Mem, m12 = (wr m10 291 4 (if 6 < ((m10 291 4) + 1) then 6 else ((m10 291 4) + 1))) → (P (m12 291 4) m12))))))))) :
    XI l M_X3_store G P mem 0 [(0, .ref (gA G 291)), (1, .int a1), (2, .int a2), (3, .int a3)] [] := by
  refine x_aload_n (pc := 0) dX3_store_0 0 rfl rfl ?_
  refine x_get (pc := 1) 291 0 dX3_store_1 (mK hG (by decide)) (mc_291 hG _) rfl inX3 (by decide) tb_176 rfl rfl ?_
  refine x_aload_n (pc := 4) dX3_store_4 0 rfl rfl ?_
  refine x_get (pc := 5) 291 3 dX3_store_5 (mK hG (by decide)) (mc_291 hG _) rfl inX3 (by decide) tb_179 rfl rfl ?_
  refine x_iload_n (pc := 8) dX3_store_8 1 rfl rfl ?_
  have n1 := h.1
  have h := h.2
  refine x_iast (pc := 9) 292 dX3_store_9 (mK hG (by decide)) (mc_292 hG) n1 ?_
  obtain ⟨m2, e3⟩ : ∃ z, z = (wr mem 292 ((mem 291 3).toNatClampNeg) a1) := ⟨_, rfl⟩
  refine x_mem e3.symm ?_
  have h := h m2 e3
  refine x_aload_n (pc := 10) dX3_store_10 0 rfl rfl ?_
  refine x_get (pc := 11) 291 1 dX3_store_11 (mK hG (by decide)) (mc_291 hG _) rfl inX3 (by decide) tb_177 rfl rfl ?_
  refine x_aload_n (pc := 14) dX3_store_14 0 rfl rfl ?_
  refine x_get (pc := 15) 291 3 dX3_store_15 (mK hG (by decide)) (mc_291 hG _) rfl inX3 (by decide) tb_179 rfl rfl ?_
  refine x_iload_n (pc := 18) dX3_store_18 2 rfl rfl ?_
  have n4 := h.1
  have h := h.2
  refine x_iast (pc := 19) 293 dX3_store_19 (mK hG (by decide)) (mc_293 hG) n4 ?_
  obtain ⟨m5, e6⟩ : ∃ z, z = (wr m2 293 ((m2 291 3).toNatClampNeg) a2) := ⟨_, rfl⟩
  refine x_mem e6.symm ?_
  have h := h m5 e6
  refine x_aload_n (pc := 20) dX3_store_20 0 rfl rfl ?_
  refine x_get (pc := 21) 291 2 dX3_store_21 (mK hG (by decide)) (mc_291 hG _) rfl inX3 (by decide) tb_178 rfl rfl ?_
  refine x_aload_n (pc := 24) dX3_store_24 0 rfl rfl ?_
  refine x_get (pc := 25) 291 3 dX3_store_25 (mK hG (by decide)) (mc_291 hG _) rfl inX3 (by decide) tb_179 rfl rfl ?_
  refine x_iload_n (pc := 28) dX3_store_28 3 rfl rfl ?_
  have n7 := h.1
  have h := h.2
  refine x_iast (pc := 29) 294 dX3_store_29 (mK hG (by decide)) (mc_294 hG) n7 ?_
  obtain ⟨m8, e9⟩ : ∃ z, z = (wr m5 294 ((m5 291 3).toNatClampNeg) a3) := ⟨_, rfl⟩
  refine x_mem e9.symm ?_
  have h := h m8 e9
  refine x_aload_n (pc := 30) dX3_store_30 0 rfl rfl ?_
  refine x_aload_n (pc := 31) dX3_store_31 0 rfl rfl ?_
  refine x_get (pc := 32) 291 3 dX3_store_32 (mK hG (by decide)) (mc_291 hG _) rfl inX3 (by decide) tb_179 rfl rfl ?_
  refine x_iconst (pc := 35) (v := 1) dX3_store_35 (by decide) ?_
  refine x_iadd (pc := 36) dX3_store_36 ?_
  refine x_bipush (pc := 37) (v := 6) dX3_store_37 (by decide) ?_
  refine x_irem (pc := 39) dX3_store_39 (by decide) ?_
  refine x_put (pc := 40) 291 3 dX3_store_40 (mK hG (by decide)) (mc_291 hG) rfl inX3 tyX3 tyX3_ok nmX3 (by decide) tb_179 rfl rfl (by decide +kernel) (fun _ => Nat.le_of_ble_eq_true rfl) (fun _ _ => rfl) ?_
  obtain ⟨m10, e11⟩ : ∃ z, z = (wr m8 291 3 (((m8 291 3) + 1) - ((m8 291 3) + 1) / 6 * 6)) := ⟨_, rfl⟩
  refine x_mem e11.symm ?_
  have h := h m10 e11
  refine x_aload_n (pc := 43) dX3_store_43 0 rfl rfl ?_
  refine x_aload_n (pc := 44) dX3_store_44 0 rfl rfl ?_
  refine x_get (pc := 45) 291 4 dX3_store_45 (mK hG (by decide)) (mc_291 hG _) rfl inX3 (by decide) tb_180 rfl rfl ?_
  refine x_iconst (pc := 48) (v := 1) dX3_store_48 (by decide) ?_
  refine x_iadd (pc := 49) dX3_store_49 ?_
  refine x_bipush (pc := 50) (v := 6) dX3_store_50 (by decide) ?_
  refine x_mmin (pc := 52) dX3_store_52 tb_562 tb_66 tb_33 tb_67 ⟨by decide, Nat.le_of_ble_eq_true rfl, by decide, by decide⟩ ?_
  refine x_put (pc := 55) 291 4 dX3_store_55 (mK hG (by decide)) (mc_291 hG) rfl inX3 tyX3 tyX3_ok nmX3 (by decide) tb_180 rfl rfl (by decide +kernel) (fun _ => Nat.le_of_ble_eq_true rfl) (fun _ _ => rfl) ?_
  obtain ⟨m12, e13⟩ : ∃ z, z = (wr m10 291 4 (if 6 < ((m10 291 4) + 1) then 6 else ((m10 291 4) + 1))) := ⟨_, rfl⟩
  refine x_mem e13.symm ?_
  have h := h m12 e13
  refine x_aload_n (pc := 58) dX3_store_58 0 rfl rfl ?_
  refine x_get (pc := 59) 291 4 dX3_store_59 (mK hG (by decide)) (mc_291 hG _) rfl inX3 (by decide) tb_180 rfl rfl ?_
  exact x_endI (pc := 62) dX3_store_62 rfl h
set_option maxRecDepth 100000 in
set_option maxHeartbeats 4000000 in
theorem t_X3_countWeights_0 {l : Launch} {G : Gx} {P : Int32 → Mem → Prop} (hG : Mn G) {s : Nat} (hs : Sv G s) (a2 : Int32) (a3 : Int32) (mem : Mem)
    (h : XI l M_X3_countWeights G P mem 10 [(0, .ref (gA G 291)), (1, .ref (gA G s)), (2, .int a2), (3, .int a3), (4, .int 1), (5, .int 99), (6, .int 0)] []) :
    XI l M_X3_countWeights G P mem 0 [(0, .ref (gA G 291)), (1, .ref (gA G s)), (2, .int a2), (3, .int a3)] [] := by
  refine x_iconst (pc := 0) (v := 1) dX3_countWeights_0 (by decide) ?_
  refine x_istore (pc := 1) dX3_countWeights_1 (by decide) rfl ?_
  refine x_bipush (pc := 3) (v := 99) dX3_countWeights_3 (by decide) ?_
  refine x_istore (pc := 5) dX3_countWeights_5 (by decide) rfl ?_
  refine x_iconst (pc := 7) (v := 0) dX3_countWeights_7 (by decide) ?_
  refine x_istore (pc := 8) dX3_countWeights_8 (by decide) rfl ?_
  exact x_sub [3, 4, 5, 6, 2, 1, 0] rfl h
set_option maxRecDepth 100000 in
set_option maxHeartbeats 4000000 in
theorem t_X3_countWeights_10 {l : Launch} {G : Gx} {P : Int32 → Mem → Prop} (hG : Mn G) {s : Nat} (hs : Sv G s) (a2 : Int32) (a3 : Int32) (a4 : Int32) (a5 : Int32) (a6 : Int32) (mem : Mem)
    (h : ((mem 291 4) ≤ a6 → (P (if 0 < ((a5 - a4) + 1) then ((a5 - a4) + 1) else 0) mem)) ∧ (¬ (mem 291 4) ≤ a6 → (vp_in a6 6 ∧ (vp_in a6 6 ∧ (vp_in a6 6 ∧ (∃ Q5 : Int32 → Mem → Prop, CtI l M_X5_between G [.ref (gA G s), .int (mem 292 a6.toNatClampNeg), .int (mem 293 a6.toNatClampNeg)] mem Q5 ∧ ∀ (r7 : Int32) (m8 : Mem), Q5 r7 m8 → (vp_in a6 6 ∧ (vp_in a6 6 ∧ (∃ Q12 : Int32 → Mem → Prop, CtI l M_X5_joined G [.ref (gA G s), .int (m8 292 a6.toNatClampNeg), .int (m8 293 a6.toNatClampNeg)] m8 Q12 ∧ ∀ (r14 : Int32) (m15 : Mem), Q12 r14 m15 → ((¬ r14 = 0 → (vp_in a6 6 ∧ (vp_in a6 6 ∧ (∃ Q20 : Int32 → Mem → Prop, CtI l M_X5_goesOver G [.ref (gA G s), .int (m15 292 a6.toNatClampNeg), .int (m15 293 a6.toNatClampNeg), .int a2, .int a3] m15 Q20 ∧ ∀ (r22 : Int32) (m23 : Mem), Q20 r22 m23 → ((r22 = 0 → ((((mem 294 a6.toNatClampNeg) - r7) = 0 → (XI l M_X3_countWeights G P m23 10 [(0, .ref (gA G 291)), (1, .ref (gA G s)), (2, .int a2), (3, .int a3), (4, .int a4), (5, .int a5), (6, .int (a6 + 1))] [])) ∧ (¬ ((mem 294 a6.toNatClampNeg) - r7) = 0 → (P 0 m23)))) ∧ (¬ r22 = 0 → (∃ Q27 : Int32 → Mem → Prop, CtI l M_X5_edgeOf G [.ref (gA G s), .int a2, .int a3] m23 Q27 ∧ ∀ (r29 : Int32) (m30 : Mem), Q27 r29 m30 → (XI l M_X3_countWeights G P m30 10 [(0, .ref (gA G 291)), (1, .ref (gA G s)), (2, .int a2), (3, .int a3), (4, .int (if a4 < (r29 + ((mem 294 a6.toNatClampNeg) - r7)) then (r29 + ((mem 294 a6.toNatClampNeg) - r7)) else a4)), (5, .int (if (r29 + ((mem 294 a6.toNatClampNeg) - r7)) < a5 then (r29 + ((mem 294 a6.toNatClampNeg) - r7)) else a5)), (6, .int (a6 + 1))] [])))))))) ∧ (r14 = 0 → (P 0 m15)))))))))))) :
    XI l M_X3_countWeights G P mem 10 [(0, .ref (gA G 291)), (1, .ref (gA G s)), (2, .int a2), (3, .int a3), (4, .int a4), (5, .int a5), (6, .int a6)] [] := by
  refine x_iload (pc := 10) dX3_countWeights_10 6 rfl ?_
  refine x_aload_n (pc := 12) dX3_countWeights_12 0 rfl rfl ?_
  refine x_get (pc := 13) 291 4 dX3_countWeights_13 (mK hG (by decide)) (mc_291 hG _) rfl inX3 (by decide) tb_180 rfl rfl ?_
  refine x_icmp_ge (pc := 16) (tgt := 138) dX3_countWeights_16 (by decide) (fun c1 => ?_) (fun c1 => ?_)
  · have h := h.1 c1
    refine x_iconst (pc := 138) (v := 0) dX3_countWeights_138 (by decide) ?_
    refine x_iload (pc := 139) dX3_countWeights_139 5 rfl ?_
    refine x_iload (pc := 141) dX3_countWeights_141 4 rfl ?_
    refine x_isub (pc := 143) dX3_countWeights_143 ?_
    refine x_iconst (pc := 144) (v := 1) dX3_countWeights_144 (by decide) ?_
    refine x_iadd (pc := 145) dX3_countWeights_145 ?_
    refine x_mmax (pc := 146) dX3_countWeights_146 tb_581 tb_69 tb_33 tb_70 ⟨by decide, Nat.le_of_ble_eq_true rfl, by decide, by decide⟩ ?_
    exact x_endI (pc := 149) dX3_countWeights_149 rfl h
  · have h := h.2 c1
    refine x_aload_n (pc := 19) dX3_countWeights_19 0 rfl rfl ?_
    refine x_get (pc := 20) 291 2 dX3_countWeights_20 (mK hG (by decide)) (mc_291 hG _) rfl inX3 (by decide) tb_178 rfl rfl ?_
    refine x_iload (pc := 23) dX3_countWeights_23 6 rfl ?_
    have n2 := h.1
    refine x_iald (pc := 25) 294 dX3_countWeights_25 (mK hG (by decide)) (mc_294 hG _) n2 ?_
    have h := h.2
    refine x_aload_n (pc := 26) dX3_countWeights_26 1 rfl rfl ?_
    refine x_aload_n (pc := 27) dX3_countWeights_27 0 rfl rfl ?_
    refine x_get (pc := 28) 291 0 dX3_countWeights_28 (mK hG (by decide)) (mc_291 hG _) rfl inX3 (by decide) tb_176 rfl rfl ?_
    refine x_iload (pc := 31) dX3_countWeights_31 6 rfl ?_
    have n3 := h.1
    refine x_iald (pc := 33) 292 dX3_countWeights_33 (mK hG (by decide)) (mc_292 hG _) n3 ?_
    have h := h.2
    refine x_aload_n (pc := 34) dX3_countWeights_34 0 rfl rfl ?_
    refine x_get (pc := 35) 291 1 dX3_countWeights_35 (mK hG (by decide)) (mc_291 hG _) rfl inX3 (by decide) tb_177 rfl rfl ?_
    refine x_iload (pc := 38) dX3_countWeights_38 6 rfl ?_
    have n4 := h.1
    refine x_iald (pc := 40) 293 dX3_countWeights_40 (mK hG (by decide)) (mc_293 hG _) n4 ?_
    have h := h.2
    obtain ⟨Q5, hc6, h⟩ := h
    refine x_callVI (pc := 41) s hc6 ok_X5_between dX3_countWeights_41 tb_571 ⟨⟨rfl, rfl⟩, ⟨by decide, by decide⟩, by decide, by decide⟩ (Sv_K0 hs) (Sv_c0 hs _) rfl (As := [.int (mem 292 a6.toNatClampNeg), .int (mem 293 a6.toNatClampNeg)]) rfl rfl (Nat.le_of_ble_eq_true rfl) (fun r7 m8 q9 => ?_)
    have h := h r7 m8 q9
    refine x_isub (pc := 44) dX3_countWeights_44 ?_
    refine x_istore (pc := 45) dX3_countWeights_45 (by decide) rfl ?_
    refine x_aload_n (pc := 47) dX3_countWeights_47 2 rfl rfl ?_
    refine x_aload_n (pc := 48) dX3_countWeights_48 1 rfl rfl ?_
    refine x_get (pc := 49) 291 0 dX3_countWeights_49 (mK hG (by decide)) (mc_291 hG _) rfl inX3 (by decide) tb_176 rfl rfl ?_
    refine x_iload (pc := 52) dX3_countWeights_52 7 rfl ?_
    have n10 := h.1
    refine x_iald (pc := 54) 292 dX3_countWeights_54 (mK hG (by decide)) (mc_292 hG _) n10 ?_
    have h := h.2
    refine x_aload_n (pc := 55) dX3_countWeights_55 1 rfl rfl ?_
    refine x_get (pc := 56) 291 1 dX3_countWeights_56 (mK hG (by decide)) (mc_291 hG _) rfl inX3 (by decide) tb_177 rfl rfl ?_
    refine x_iload (pc := 59) dX3_countWeights_59 7 rfl ?_
    have n11 := h.1
    refine x_iald (pc := 61) 293 dX3_countWeights_61 (mK hG (by decide)) (mc_293 hG _) n11 ?_
    have h := h.2
    obtain ⟨Q12, hc13, h⟩ := h
    refine x_callVI (pc := 62) s hc13 ok_X5_joined dX3_countWeights_62 tb_572 ⟨⟨rfl, rfl⟩, ⟨by decide, by decide⟩, by decide, by decide⟩ (Sv_K0 hs) (Sv_c0 hs _) rfl (As := [.int (m8 292 a6.toNatClampNeg), .int (m8 293 a6.toNatClampNeg)]) rfl rfl (Nat.le_of_ble_eq_true rfl) (fun r14 m15 q16 => ?_)
    have h := h r14 m15 q16
    refine x_if_ne (pc := 65) (tgt := 70) dX3_countWeights_65 (by decide) (fun c17 => ?_) (fun c17 => ?_)
    · have h := h.1 c17
      refine x_aload_n (pc := 70) dX3_countWeights_70 2 rfl rfl ?_
      refine x_aload_n (pc := 71) dX3_countWeights_71 1 rfl rfl ?_
      refine x_get (pc := 72) 291 0 dX3_countWeights_72 (mK hG (by decide)) (mc_291 hG _) rfl inX3 (by decide) tb_176 rfl rfl ?_
      refine x_iload (pc := 75) dX3_countWeights_75 7 rfl ?_
      have n18 := h.1
      refine x_iald (pc := 77) 292 dX3_countWeights_77 (mK hG (by decide)) (mc_292 hG _) n18 ?_
      have h := h.2
      refine x_aload_n (pc := 78) dX3_countWeights_78 1 rfl rfl ?_
      refine x_get (pc := 79) 291 1 dX3_countWeights_79 (mK hG (by decide)) (mc_291 hG _) rfl inX3 (by decide) tb_177 rfl rfl ?_
      refine x_iload (pc := 82) dX3_countWeights_82 7 rfl ?_
      have n19 := h.1
      refine x_iald (pc := 84) 293 dX3_countWeights_84 (mK hG (by decide)) (mc_293 hG _) n19 ?_
      have h := h.2
      refine x_iload_n (pc := 85) dX3_countWeights_85 3 rfl rfl ?_
      refine x_iload_n (pc := 86) dX3_countWeights_86 4 rfl rfl ?_
      obtain ⟨Q20, hc21, h⟩ := h
      refine x_callVI (pc := 87) s hc21 ok_X5_goesOver dX3_countWeights_87 tb_573 ⟨⟨rfl, rfl⟩, ⟨by decide, by decide⟩, by decide, by decide⟩ (Sv_K0 hs) (Sv_c0 hs _) rfl (As := [.int (m15 292 a6.toNatClampNeg), .int (m15 293 a6.toNatClampNeg), .int a2, .int a3]) rfl rfl (Nat.le_of_ble_eq_true rfl) (fun r22 m23 q24 => ?_)
      have h := h r22 m23 q24
      refine x_if_eq (pc := 90) (tgt := 125) dX3_countWeights_90 (by decide) (fun c25 => ?_) (fun c25 => ?_)
      · have h := h.1 c25
        refine x_iload (pc := 125) dX3_countWeights_125 0 rfl ?_
        refine x_if_eq (pc := 127) (tgt := 132) dX3_countWeights_127 (by decide) (fun c26 => ?_) (fun c26 => ?_)
        · have h := h.1 c26
          refine x_iinc (pc := 132) (v := (a6 + 1)) dX3_countWeights_132 (k := 7) rfl rfl (by decide) rfl ?_
          refine x_goto (pc := 135) (tgt := 10) dX3_countWeights_135 (by decide) ?_
          exact x_sub [2, 3, 4, 5, 6, 7, 0] rfl h
        · have h := h.2 c26
          refine x_iconst (pc := 130) (v := 0) dX3_countWeights_130 (by decide) ?_
          exact x_endI (pc := 131) dX3_countWeights_131 rfl h
      · have h := h.2 c25
        refine x_aload_n (pc := 93) dX3_countWeights_93 2 rfl rfl ?_
        refine x_iload_n (pc := 94) dX3_countWeights_94 3 rfl rfl ?_
        refine x_iload_n (pc := 95) dX3_countWeights_95 4 rfl rfl ?_
        obtain ⟨Q27, hc28, h⟩ := h
        refine x_callVI (pc := 96) s hc28 ok_X5_edgeOf dX3_countWeights_96 tb_577 ⟨⟨rfl, rfl⟩, ⟨by decide, by decide⟩, by decide, by decide⟩ (Sv_K0 hs) (Sv_c0 hs _) rfl (As := [.int a2, .int a3]) rfl rfl (Nat.le_of_ble_eq_true rfl) (fun r29 m30 q31 => ?_)
        have h := h r29 m30 q31
        refine x_iload (pc := 99) dX3_countWeights_99 0 rfl ?_
        refine x_iadd (pc := 101) dX3_countWeights_101 ?_
        refine x_istore (pc := 102) dX3_countWeights_102 (by decide) rfl ?_
        refine x_iload (pc := 104) dX3_countWeights_104 6 rfl ?_
        refine x_iload (pc := 106) dX3_countWeights_106 0 rfl ?_
        refine x_mmax (pc := 108) dX3_countWeights_108 tb_581 tb_69 tb_33 tb_70 ⟨by decide, Nat.le_of_ble_eq_true rfl, by decide, by decide⟩ ?_
        refine x_istore (pc := 111) dX3_countWeights_111 (by decide) rfl ?_
        refine x_iload (pc := 113) dX3_countWeights_113 7 rfl ?_
        refine x_iload (pc := 115) dX3_countWeights_115 1 rfl ?_
        refine x_mmin (pc := 117) dX3_countWeights_117 tb_562 tb_66 tb_33 tb_67 ⟨by decide, Nat.le_of_ble_eq_true rfl, by decide, by decide⟩ ?_
        refine x_istore (pc := 120) dX3_countWeights_120 (by decide) rfl ?_
        refine x_goto (pc := 122) (tgt := 132) dX3_countWeights_122 (by decide) ?_
        refine x_iinc (pc := 132) (v := (a6 + 1)) dX3_countWeights_132 (k := 8) rfl rfl (by decide) rfl ?_
        refine x_goto (pc := 135) (tgt := 10) dX3_countWeights_135 (by decide) ?_
        exact x_sub [5, 6, 7, 8, 2, 1, 0] rfl h
    · have h := h.2 c17
      refine x_iconst (pc := 68) (v := 0) dX3_countWeights_68 (by decide) ?_
      exact x_endI (pc := 69) dX3_countWeights_69 rfl h
set_option maxRecDepth 100000 in
set_option maxHeartbeats 4000000 in
theorem t_X4_size_0 {l : Launch} {G : Gx} {P : Int32 → Mem → Prop} (hG : Mn G)  (mem : Mem)
    (h : P (mem 76 0) mem) :
    XI l M_X4_size G P mem 0 [(0, .ref (gA G 76))] [] := by
  refine x_aload_n (pc := 0) dX4_size_0 0 rfl rfl ?_
  refine x_get (pc := 1) 76 0 dX4_size_1 (mK hG (by decide)) (mc_76 hG _) rfl inX4 (by decide) tb_138 rfl rfl ?_
  exact x_endI (pc := 4) dX4_size_4 rfl h
set_option maxRecDepth 100000 in
set_option maxHeartbeats 4000000 in
theorem t_X4_put_0 {l : Launch} {G : Gx} {P : Int32 → Mem → Prop} (hG : Mn G) (a1 : Int32) (mem : Mem)
    (h : ((mem 76 0) < 80 → (vp_in (mem 76 0) 80 ∧ (P 1 (wr (wr mem 77 ((mem 76 0).toNatClampNeg) a1) 76 0 (((wr mem 77 ((mem 76 0).toNatClampNeg) a1) 76 0) + 1))))) ∧ (¬ (mem 76 0) < 80 → (P 0 mem))) :
    XI l M_X4_put G P mem 0 [(0, .ref (gA G 76)), (1, .int a1)] [] := by
  refine x_aload_n (pc := 0) dX4_put_0 0 rfl rfl ?_
  refine x_get (pc := 1) 76 0 dX4_put_1 (mK hG (by decide)) (mc_76 hG _) rfl inX4 (by decide) tb_138 rfl rfl ?_
  refine x_bipush (pc := 4) (v := 80) dX4_put_4 (by decide) ?_
  refine x_icmp_lt (pc := 6) (tgt := 11) dX4_put_6 (by decide) (fun c1 => ?_) (fun c1 => ?_)
  · have h := h.1 c1
    refine x_aload_n (pc := 11) dX4_put_11 0 rfl rfl ?_
    refine x_get (pc := 12) 76 1 dX4_put_12 (mK hG (by decide)) (mc_76 hG _) rfl inX4 (by decide) tb_139 rfl rfl ?_
    refine x_aload_n (pc := 15) dX4_put_15 0 rfl rfl ?_
    refine x_get (pc := 16) 76 0 dX4_put_16 (mK hG (by decide)) (mc_76 hG _) rfl inX4 (by decide) tb_138 rfl rfl ?_
    refine x_iload_n (pc := 19) dX4_put_19 1 rfl rfl ?_
    have n2 := h.1
    have h := h.2
    refine x_iast (pc := 20) 77 dX4_put_20 (mK hG (by decide)) (mc_77 hG) n2 ?_
    refine x_aload_n (pc := 21) dX4_put_21 0 rfl rfl ?_
    refine x_dup (pc := 22) dX4_put_22 rfl ?_
    refine x_get (pc := 23) 76 0 dX4_put_23 (mK hG (by decide)) (mc_76 hG _) rfl inX4 (by decide) tb_138 rfl rfl ?_
    refine x_iconst (pc := 26) (v := 1) dX4_put_26 (by decide) ?_
    refine x_iadd (pc := 27) dX4_put_27 ?_
    refine x_put (pc := 28) 76 0 dX4_put_28 (mK hG (by decide)) (mc_76 hG) rfl inX4 tyX4 tyX4_ok nmX4 (by decide) tb_138 rfl rfl (by decide +kernel) (fun _ => Nat.le_of_ble_eq_true rfl) (fun _ _ => rfl) ?_
    refine x_iconst (pc := 31) (v := 1) dX4_put_31 (by decide) ?_
    exact x_endZ (pc := 32) dX4_put_32 rfl (Or.inr rfl) h
  · have h := h.2 c1
    refine x_iconst (pc := 9) (v := 0) dX4_put_9 (by decide) ?_
    exact x_endZ (pc := 10) dX4_put_10 rfl (Or.inl rfl) h
set_option maxRecDepth 100000 in
set_option maxHeartbeats 4000000 in
theorem t_X4_empty_0 {l : Launch} {G : Gx} {P : Mem → Prop} (hG : Mn G)  (mem : Mem)
    (h : P (wr mem 76 0 0)) :
    XV l M_X4_empty G P mem 0 [(0, .ref (gA G 76))] [] := by
  refine x_aload_n (pc := 0) dX4_empty_0 0 rfl rfl ?_
  refine x_iconst (pc := 1) (v := 0) dX4_empty_1 (by decide) ?_
  refine x_put (pc := 2) 76 0 dX4_empty_2 (mK hG (by decide)) (mc_76 hG) rfl inX4 tyX4 tyX4_ok nmX4 (by decide) tb_138 rfl rfl (by decide +kernel) (fun _ => Nat.le_of_ble_eq_true rfl) (fun _ _ => rfl) ?_
  exact x_endV (pc := 5) dX4_empty_5 rfl h
set_option maxRecDepth 100000 in
set_option maxHeartbeats 4000000 in
theorem t_X4_readInto_0 {l : Launch} {G : Gx} {P : Int32 → Mem → Prop} (hG : Mn G) {g : Nat} (hg : Fo G g)  (mem : Mem)
    (h : ∃ Q1 : Int32 → Mem → Prop, CtI l M_X4_take G [.ref (gA G 76), .int 70, .int 70] (wr mem 76 2 0) Q1 ∧ ∀ (r3 : Int32) (m4 : Mem), Q1 r3 m4 → ((¬ r3 = (-1) → (∃ Q7 : Int32 → Mem → Prop, CtI l M_X4_takeNumber G [.ref (gA G 76), .int 1, .int 12] m4 Q7 ∧ ∀ (r9 : Int32) (m10 : Mem), Q7 r9 m10 → ((¬ r9 = (-1) → (∃ Q13 : Mem → Prop, CtV l M_X1_reset G [.ref (gA G g), .int r9] m10 Q13 ∧ ∀ m16 : Mem, Q13 m16 → (∃ Q18 : Int32 → Mem → Prop, CtI l M_X4_takeWeights G [.ref (gA G 76), .ref (gA G g)] m16 Q18 ∧ ∀ (r20 : Int32) (m21 : Mem), Q18 r20 m21 → ((r20 = 0 → (P (m21 76 2) m21)) ∧ (¬ r20 = 0 → (∃ Q24 : Int32 → Mem → Prop, CtI l M_X4_takeEdges G [.ref (gA G 76), .ref (gA G g)] m21 Q24 ∧ ∀ (r26 : Int32) (m27 : Mem), Q24 r26 m27 → ((r26 = 0 → (P (m27 76 2) m27)) ∧ (¬ r26 = 0 → (P (-9) m27))))))))) ∧ (r9 = (-1) → (P (m10 76 2) m10))))) ∧ (r3 = (-1) → (P (m4 76 2) m4)))) :
    XI l M_X4_readInto G P mem 0 [(0, .ref (gA G 76)), (1, .ref (gA G g))] [] := by
  refine x_aload_n (pc := 0) dX4_readInto_0 0 rfl rfl ?_
  refine x_iconst (pc := 1) (v := 0) dX4_readInto_1 (by decide) ?_
  refine x_put (pc := 2) 76 2 dX4_readInto_2 (mK hG (by decide)) (mc_76 hG) rfl inX4 tyX4 tyX4_ok nmX4 (by decide) tb_140 rfl rfl (by decide +kernel) (fun _ => Nat.le_of_ble_eq_true rfl) (fun _ _ => rfl) ?_
  refine x_aload_n (pc := 5) dX4_readInto_5 0 rfl rfl ?_
  refine x_bipush (pc := 6) (v := 70) dX4_readInto_6 (by decide) ?_
  refine x_bipush (pc := 8) (v := 70) dX4_readInto_8 (by decide) ?_
  obtain ⟨Q1, hc2, h⟩ := h
  refine x_callVI (pc := 10) 76 hc2 ok_X4_take dX4_readInto_10 tb_699 ⟨⟨rfl, rfl⟩, ⟨by decide, by decide⟩, by decide, by decide⟩ (mK hG (by decide)) (mc_76 hG _) rfl (As := [.int 70, .int 70]) rfl rfl (Nat.le_of_ble_eq_true rfl) (fun r3 m4 q5 => ?_)
  have h := h r3 m4 q5
  refine x_iconst (pc := 13) (v := (-1)) dX4_readInto_13 (by decide) ?_
  refine x_icmp_ne (pc := 14) (tgt := 22) dX4_readInto_14 (by decide) (fun c6 => ?_) (fun c6 => ?_)
  · have h := h.1 c6
    refine x_aload_n (pc := 22) dX4_readInto_22 0 rfl rfl ?_
    refine x_iconst (pc := 23) (v := 1) dX4_readInto_23 (by decide) ?_
    refine x_bipush (pc := 24) (v := 12) dX4_readInto_24 (by decide) ?_
    obtain ⟨Q7, hc8, h⟩ := h
    refine x_callVI (pc := 26) 76 hc8 ok_X4_takeNumber dX4_readInto_26 tb_703 ⟨⟨rfl, rfl⟩, ⟨by decide, by decide⟩, by decide, by decide⟩ (mK hG (by decide)) (mc_76 hG _) rfl (As := [.int 1, .int 12]) rfl rfl (Nat.le_of_ble_eq_true rfl) (fun r9 m10 q11 => ?_)
    have h := h r9 m10 q11
    refine x_istore_n (pc := 29) dX4_readInto_29 rfl (by decide) rfl ?_
    refine x_iload_n (pc := 30) dX4_readInto_30 0 rfl rfl ?_
    refine x_iconst (pc := 31) (v := (-1)) dX4_readInto_31 (by decide) ?_
    refine x_icmp_ne (pc := 32) (tgt := 40) dX4_readInto_32 (by decide) (fun c12 => ?_) (fun c12 => ?_)
    · have h := h.1 c12
      refine x_aload_n (pc := 40) dX4_readInto_40 2 rfl rfl ?_
      refine x_iload_n (pc := 41) dX4_readInto_41 0 rfl rfl ?_
      obtain ⟨Q13, hc14, h⟩ := h
      refine x_callVV (pc := 42) g hc14 ok_X1_reset dX4_readInto_42 tb_707 ⟨⟨rfl, rfl⟩, ⟨by decide, by decide⟩, by decide, by decide⟩ (Fo_K0 hg) (Fo_c0 hg _) rfl (As := [.int r9]) rfl rfl (Nat.le_of_ble_eq_true rfl) (fun m16 q17 => ?_)
      have h := h m16 q17
      refine x_aload_n (pc := 45) dX4_readInto_45 1 rfl rfl ?_
      refine x_aload_n (pc := 46) dX4_readInto_46 2 rfl rfl ?_
      obtain ⟨Q18, hc19, h⟩ := h
      refine x_callVI (pc := 47) 76 hc19 ok_X4_takeWeights dX4_readInto_47 tb_708 ⟨⟨rfl, rfl⟩, ⟨by decide, by decide⟩, by decide, by decide⟩ (mK hG (by decide)) (mc_76 hG _) rfl (As := [.ref (gA G g)]) rfl rfl (Nat.le_of_ble_eq_true rfl) (fun r20 m21 q22 => ?_)
      have h := h r20 m21 q22
      refine x_if_eq (pc := 50) (tgt := 66) dX4_readInto_50 (by decide) (fun c23 => ?_) (fun c23 => ?_)
      · have h := h.1 c23
        refine x_aload_n (pc := 66) dX4_readInto_66 1 rfl rfl ?_
        refine x_get (pc := 67) 76 2 dX4_readInto_67 (mK hG (by decide)) (mc_76 hG _) rfl inX4 (by decide) tb_140 rfl rfl ?_
        exact x_endI (pc := 70) dX4_readInto_70 rfl h
      · have h := h.2 c23
        refine x_aload_n (pc := 53) dX4_readInto_53 1 rfl rfl ?_
        refine x_aload_n (pc := 54) dX4_readInto_54 2 rfl rfl ?_
        obtain ⟨Q24, hc25, h⟩ := h
        refine x_callVI (pc := 55) 76 hc25 ok_X4_takeEdges dX4_readInto_55 tb_714 ⟨⟨rfl, rfl⟩, ⟨by decide, by decide⟩, by decide, by decide⟩ (mK hG (by decide)) (mc_76 hG _) rfl (As := [.ref (gA G g)]) rfl rfl (Nat.le_of_ble_eq_true rfl) (fun r26 m27 q28 => ?_)
        have h := h r26 m27 q28
        refine x_if_eq (pc := 58) (tgt := 66) dX4_readInto_58 (by decide) (fun c29 => ?_) (fun c29 => ?_)
        · have h := h.1 c29
          refine x_aload_n (pc := 66) dX4_readInto_66 1 rfl rfl ?_
          refine x_get (pc := 67) 76 2 dX4_readInto_67 (mK hG (by decide)) (mc_76 hG _) rfl inX4 (by decide) tb_140 rfl rfl ?_
          exact x_endI (pc := 70) dX4_readInto_70 rfl h
        · have h := h.2 c29
          refine x_bipush (pc := 61) (v := (-9)) dX4_readInto_61 (by decide) ?_
          refine x_goto (pc := 63) (tgt := 70) dX4_readInto_63 (by decide) ?_
          exact x_endI (pc := 70) dX4_readInto_70 rfl h
    · have h := h.2 c12
      refine x_aload_n (pc := 35) dX4_readInto_35 1 rfl rfl ?_
      refine x_get (pc := 36) 76 2 dX4_readInto_36 (mK hG (by decide)) (mc_76 hG _) rfl inX4 (by decide) tb_140 rfl rfl ?_
      exact x_endI (pc := 39) dX4_readInto_39 rfl h
  · have h := h.2 c6
    refine x_aload_n (pc := 17) dX4_readInto_17 0 rfl rfl ?_
    refine x_get (pc := 18) 76 2 dX4_readInto_18 (mK hG (by decide)) (mc_76 hG _) rfl inX4 (by decide) tb_140 rfl rfl ?_
    exact x_endI (pc := 21) dX4_readInto_21 rfl h
set_option maxRecDepth 100000 in
set_option maxHeartbeats 4000000 in
theorem t_X4_takeWeights_0 {l : Launch} {G : Gx} {P : Int32 → Mem → Prop} (hG : Mn G) {g : Nat} (hg : Fo G g)  (mem : Mem)
    (h : XI l M_X4_takeWeights G P mem 2 [(0, .ref (gA G 76)), (1, .ref (gA G g)), (2, .int 0)] []) :
    XI l M_X4_takeWeights G P mem 0 [(0, .ref (gA G 76)), (1, .ref (gA G g))] [] := by
  refine x_iconst (pc := 0) (v := 0) dX4_takeWeights_0 (by decide) ?_
  refine x_istore_n (pc := 1) dX4_takeWeights_1 rfl (by decide) rfl ?_
  exact x_sub [1, 2, 0] rfl h
set_option maxRecDepth 100000 in
set_option maxHeartbeats 4000000 in
theorem t_X4_takeWeights_2 {l : Launch} {G : Gx} {P : Int32 → Mem → Prop} (hG : Mn G) {g : Nat} (hg : Fo G g) (a2 : Int32) (mem : Mem)
    (h : ∃ Q1 : Int32 → Mem → Prop, CtI l M_X1_vertices G [.ref (gA G g)] mem Q1 ∧ ∀ (r3 : Int32) (m4 : Mem), Q1 r3 m4 → ((r3 ≤ a2 → (P 1 m4)) ∧ (¬ r3 ≤ a2 → (∃ Q7 : Int32 → Mem → Prop, CtI l M_X4_takeNumber G [.ref (gA G 76), .int 0, .int 99] m4 Q7 ∧ ∀ (r9 : Int32) (m10 : Mem), Q7 r9 m10 → ((¬ r9 = (-1) → (∃ Q13 : Mem → Prop, CtV l M_X1_putWeight G [.ref (gA G g), .int a2, .int r9] m10 Q13 ∧ ∀ m16 : Mem, Q13 m16 → (XI l M_X4_takeWeights G P m16 2 [(0, .ref (gA G 76)), (1, .ref (gA G g)), (2, .int (a2 + 1))] []))) ∧ (r9 = (-1) → (P 0 m10))))))) :
    XI l M_X4_takeWeights G P mem 2 [(0, .ref (gA G 76)), (1, .ref (gA G g)), (2, .int a2)] [] := by
  refine x_iload_n (pc := 2) dX4_takeWeights_2 2 rfl rfl ?_
  refine x_aload_n (pc := 3) dX4_takeWeights_3 1 rfl rfl ?_
  obtain ⟨Q1, hc2, h⟩ := h
  refine x_callVI (pc := 4) g hc2 ok_X1_vertices dX4_takeWeights_4 tb_712 ⟨⟨rfl, rfl⟩, ⟨by decide, by decide⟩, by decide, by decide⟩ (Fo_K0 hg) (Fo_c0 hg _) rfl (As := []) rfl rfl (Nat.le_of_ble_eq_true rfl) (fun r3 m4 q5 => ?_)
  have h := h r3 m4 q5
  refine x_icmp_ge (pc := 7) (tgt := 37) dX4_takeWeights_7 (by decide) (fun c6 => ?_) (fun c6 => ?_)
  · have h := h.1 c6
    refine x_iconst (pc := 37) (v := 1) dX4_takeWeights_37 (by decide) ?_
    exact x_endZ (pc := 38) dX4_takeWeights_38 rfl (Or.inr rfl) h
  · have h := h.2 c6
    refine x_aload_n (pc := 10) dX4_takeWeights_10 0 rfl rfl ?_
    refine x_iconst (pc := 11) (v := 0) dX4_takeWeights_11 (by decide) ?_
    refine x_bipush (pc := 12) (v := 99) dX4_takeWeights_12 (by decide) ?_
    obtain ⟨Q7, hc8, h⟩ := h
    refine x_callVI (pc := 14) 76 hc8 ok_X4_takeNumber dX4_takeWeights_14 tb_703 ⟨⟨rfl, rfl⟩, ⟨by decide, by decide⟩, by decide, by decide⟩ (mK hG (by decide)) (mc_76 hG _) rfl (As := [.int 0, .int 99]) rfl rfl (Nat.le_of_ble_eq_true rfl) (fun r9 m10 q11 => ?_)
    have h := h r9 m10 q11
    refine x_istore_n (pc := 17) dX4_takeWeights_17 rfl (by decide) rfl ?_
    refine x_iload_n (pc := 18) dX4_takeWeights_18 0 rfl rfl ?_
    refine x_iconst (pc := 19) (v := (-1)) dX4_takeWeights_19 (by decide) ?_
    refine x_icmp_ne (pc := 20) (tgt := 25) dX4_takeWeights_20 (by decide) (fun c12 => ?_) (fun c12 => ?_)
    · have h := h.1 c12
      refine x_aload_n (pc := 25) dX4_takeWeights_25 2 rfl rfl ?_
      refine x_iload_n (pc := 26) dX4_takeWeights_26 3 rfl rfl ?_
      refine x_iload_n (pc := 27) dX4_takeWeights_27 0 rfl rfl ?_
      obtain ⟨Q13, hc14, h⟩ := h
      refine x_callVV (pc := 28) g hc14 ok_X1_putWeight dX4_takeWeights_28 tb_713 ⟨⟨rfl, rfl⟩, ⟨by decide, by decide⟩, by decide, by decide⟩ (Fo_K0 hg) (Fo_c0 hg _) rfl (As := [.int a2, .int r9]) rfl rfl (Nat.le_of_ble_eq_true rfl) (fun m16 q17 => ?_)
      have h := h m16 q17
      refine x_iinc (pc := 31) (v := (a2 + 1)) dX4_takeWeights_31 (k := 3) rfl rfl (by decide) rfl ?_
      refine x_goto (pc := 34) (tgt := 2) dX4_takeWeights_34 (by decide) ?_
      exact x_sub [2, 3, 0] rfl h
    · have h := h.2 c12
      refine x_iconst (pc := 23) (v := 0) dX4_takeWeights_23 (by decide) ?_
      exact x_endZ (pc := 24) dX4_takeWeights_24 rfl (Or.inl rfl) h
set_option maxRecDepth 100000 in
set_option maxHeartbeats 4000000 in
theorem t_X4_takeEdges_0 {l : Launch} {G : Gx} {P : Int32 → Mem → Prop} (hG : Mn G) {g : Nat} (hg : Fo G g)  (mem : Mem)
    (h : XI l M_X4_takeEdges G P mem 2 [(0, .ref (gA G 76)), (1, .ref (gA G g)), (2, .int 0)] []) :
    XI l M_X4_takeEdges G P mem 0 [(0, .ref (gA G 76)), (1, .ref (gA G g))] [] := by
  refine x_iconst (pc := 0) (v := 0) dX4_takeEdges_0 (by decide) ?_
  refine x_istore_n (pc := 1) dX4_takeEdges_1 rfl (by decide) rfl ?_
  exact x_sub [1, 2, 0] rfl h
set_option maxRecDepth 100000 in
set_option maxHeartbeats 4000000 in
theorem t_X4_takeEdges_2 {l : Launch} {G : Gx} {P : Int32 → Mem → Prop} (hG : Mn G) {g : Nat} (hg : Fo G g) (a2 : Int32) (mem : Mem)
    (h : (12 ≤ a2 → (XI l M_X4_takeEdges G P mem 23 [(0, .ref (gA G 76)), (1, .ref (gA G g)), (2, .int 0)] [])) ∧ (¬ 12 ≤ a2 → (vp_in a2 12 ∧ (XI l M_X4_takeEdges G P (wr mem 78 a2.toNatClampNeg a2) 2 [(0, .ref (gA G 76)), (1, .ref (gA G g)), (2, .int (a2 + 1))] [])))) :
    XI l M_X4_takeEdges G P mem 2 [(0, .ref (gA G 76)), (1, .ref (gA G g)), (2, .int a2)] [] := by
  refine x_iload_n (pc := 2) dX4_takeEdges_2 2 rfl rfl ?_
  refine x_bipush (pc := 3) (v := 12) dX4_takeEdges_3 (by decide) ?_
  refine x_icmp_ge (pc := 5) (tgt := 21) dX4_takeEdges_5 (by decide) (fun c1 => ?_) (fun c1 => ?_)
  · have h := h.1 c1
    refine x_iconst (pc := 21) (v := 0) dX4_takeEdges_21 (by decide) ?_
    refine x_istore_n (pc := 22) dX4_takeEdges_22 rfl (by decide) rfl ?_
    exact x_sub [1, 2, 0] rfl h
  · have h := h.2 c1
    refine x_aload_n (pc := 8) dX4_takeEdges_8 0 rfl rfl ?_
    refine x_get (pc := 9) 76 3 dX4_takeEdges_9 (mK hG (by decide)) (mc_76 hG _) rfl inX4 (by decide) tb_141 rfl rfl ?_
    refine x_iload_n (pc := 12) dX4_takeEdges_12 2 rfl rfl ?_
    refine x_iload_n (pc := 13) dX4_takeEdges_13 2 rfl rfl ?_
    have n2 := h.1
    have h := h.2
    refine x_iast (pc := 14) 78 dX4_takeEdges_14 (mK hG (by decide)) (mc_78 hG) n2 ?_
    refine x_iinc (pc := 15) (v := (a2 + 1)) dX4_takeEdges_15 (k := 2) rfl rfl (by decide) rfl ?_
    refine x_goto (pc := 18) (tgt := 2) dX4_takeEdges_18 (by decide) ?_
    exact x_sub [1, 2, 0] rfl h
set_option maxRecDepth 100000 in
set_option maxHeartbeats 4000000 in
theorem t_X4_takeEdges_23 {l : Launch} {G : Gx} {P : Int32 → Mem → Prop} (hG : Mn G) {g : Nat} (hg : Fo G g) (a2 : Int32) (mem : Mem)
    (h : (12 ≤ a2 → (P 1 mem)) ∧ (¬ 12 ≤ a2 → (((mem 76 0) ≤ (mem 76 2) → (P 1 mem)) ∧ (¬ (mem 76 0) ≤ (mem 76 2) → (∃ Q3 : Int32 → Mem → Prop, CtI l M_X4_takeEdge G [.ref (gA G 76), .ref (gA G g)] mem Q3 ∧ ∀ (r5 : Int32) (m6 : Mem), Q3 r5 m6 → ((¬ r5 = 0 → (XI l M_X4_takeEdges G P m6 23 [(0, .ref (gA G 76)), (1, .ref (gA G g)), (2, .int (a2 + 1))] [])) ∧ (r5 = 0 → (P 0 m6)))))))) :
    XI l M_X4_takeEdges G P mem 23 [(0, .ref (gA G 76)), (1, .ref (gA G g)), (2, .int a2)] [] := by
  refine x_iload_n (pc := 23) dX4_takeEdges_23 2 rfl rfl ?_
  refine x_bipush (pc := 24) (v := 12) dX4_takeEdges_24 (by decide) ?_
  refine x_icmp_ge (pc := 26) (tgt := 56) dX4_takeEdges_26 (by decide) (fun c1 => ?_) (fun c1 => ?_)
  · have h := h.1 c1
    refine x_iconst (pc := 56) (v := 1) dX4_takeEdges_56 (by decide) ?_
    exact x_endZ (pc := 57) dX4_takeEdges_57 rfl (Or.inr rfl) h
  · have h := h.2 c1
    refine x_aload_n (pc := 29) dX4_takeEdges_29 0 rfl rfl ?_
    refine x_get (pc := 30) 76 2 dX4_takeEdges_30 (mK hG (by decide)) (mc_76 hG _) rfl inX4 (by decide) tb_140 rfl rfl ?_
    refine x_aload_n (pc := 33) dX4_takeEdges_33 0 rfl rfl ?_
    refine x_get (pc := 34) 76 0 dX4_takeEdges_34 (mK hG (by decide)) (mc_76 hG _) rfl inX4 (by decide) tb_138 rfl rfl ?_
    refine x_icmp_ge (pc := 37) (tgt := 56) dX4_takeEdges_37 (by decide) (fun c2 => ?_) (fun c2 => ?_)
    · have h := h.1 c2
      refine x_iconst (pc := 56) (v := 1) dX4_takeEdges_56 (by decide) ?_
      exact x_endZ (pc := 57) dX4_takeEdges_57 rfl (Or.inr rfl) h
    · have h := h.2 c2
      refine x_aload_n (pc := 40) dX4_takeEdges_40 0 rfl rfl ?_
      refine x_aload_n (pc := 41) dX4_takeEdges_41 1 rfl rfl ?_
      obtain ⟨Q3, hc4, h⟩ := h
      refine x_callVI (pc := 42) 76 hc4 ok_X4_takeEdge dX4_takeEdges_42 tb_718 ⟨⟨rfl, rfl⟩, ⟨by decide, by decide⟩, by decide, by decide⟩ (mK hG (by decide)) (mc_76 hG _) rfl (As := [.ref (gA G g)]) rfl rfl (Nat.le_of_ble_eq_true rfl) (fun r5 m6 q7 => ?_)
      have h := h r5 m6 q7
      refine x_if_ne (pc := 45) (tgt := 50) dX4_takeEdges_45 (by decide) (fun c8 => ?_) (fun c8 => ?_)
      · have h := h.1 c8
        refine x_iinc (pc := 50) (v := (a2 + 1)) dX4_takeEdges_50 (k := 2) rfl rfl (by decide) rfl ?_
        refine x_goto (pc := 53) (tgt := 23) dX4_takeEdges_53 (by decide) ?_
        exact x_sub [1, 2, 0] rfl h
      · have h := h.2 c8
        refine x_iconst (pc := 48) (v := 0) dX4_takeEdges_48 (by decide) ?_
        exact x_endZ (pc := 49) dX4_takeEdges_49 rfl (Or.inl rfl) h
set_option maxRecDepth 100000 in
set_option maxHeartbeats 4000000 in
theorem t_X4_takeEdge_0 {l : Launch} {G : Gx} {P : Int32 → Mem → Prop} (hG : Mn G) {g : Nat} (hg : Fo G g)  (mem : Mem)
    (h : ∃ Q1 : Int32 → Mem → Prop, CtI l M_X1_vertices G [.ref (gA G g)] mem Q1 ∧ ∀ (r3 : Int32) (m4 : Mem), Q1 r3 m4 → (∃ Q6 : Int32 → Mem → Prop, CtI l M_X4_take G [.ref (gA G 76), .int 97, .int ((97 + r3) - 1)] m4 Q6 ∧ ∀ (r8 : Int32) (m9 : Mem), Q6 r8 m9 → ((¬ r8 = (-1) → (∃ Q12 : Int32 → Mem → Prop, CtI l M_X4_take G [.ref (gA G 76), .int 97, .int ((97 + r3) - 1)] m9 Q12 ∧ ∀ (r14 : Int32) (m15 : Mem), Q12 r14 m15 → ((r8 = (-1) → (P 0 m15)) ∧ (¬ r8 = (-1) → ((¬ r14 = (-1) → (vp_in r8 12 ∧ (vp_in r14 12 ∧ ((¬ (m15 78 r8.toNatClampNeg) = (m15 78 r14.toNatClampNeg) → (∃ Q22 : Int32 → Mem → Prop, CtI l M_X4_takeNumber G [.ref (gA G 76), .int 1, .int 99] m15 Q22 ∧ ∀ (r24 : Int32) (m25 : Mem), Q22 r24 m25 → ((¬ r24 = (-1) → (∃ Q28 : Mem → Prop, CtV l M_X1_putEdge G [.ref (gA G g), .int r8, .int r14, .int r24] m25 Q28 ∧ ∀ m31 : Mem, Q28 m31 → (vp_in r8 12 ∧ (vp_in r14 12 ∧ (∃ Q35 : Mem → Prop, CtV l M_X4_joinTrees G [.ref (gA G 76), .int (m31 78 r8.toNatClampNeg), .int (m31 78 r14.toNatClampNeg)] m31 Q35 ∧ ∀ m38 : Mem, Q35 m38 → (P 1 m38)))))) ∧ (r24 = (-1) → (P 0 m25))))) ∧ ((m15 78 r8.toNatClampNeg) = (m15 78 r14.toNatClampNeg) → (P 0 (wr m15 76 2 ((m15 76 2) - 1)))))))) ∧ (r14 = (-1) → (P 0 m15))))))) ∧ (r8 = (-1) → ((r8 = (-1) → (P 0 m9)) ∧ (¬ r8 = (-1) → ((¬ ((-1) : Int32) = (-1) → (vp_in r8 12 ∧ (vp_in (-1) 12 ∧ ((¬ (m9 78 r8.toNatClampNeg) = (m9 78 ((-1) : Int32).toNatClampNeg) → (∃ Q45 : Int32 → Mem → Prop, CtI l M_X4_takeNumber G [.ref (gA G 76), .int 1, .int 99] m9 Q45 ∧ ∀ (r47 : Int32) (m48 : Mem), Q45 r47 m48 → ((¬ r47 = (-1) → (∃ Q51 : Mem → Prop, CtV l M_X1_putEdge G [.ref (gA G g), .int r8, .int (-1), .int r47] m48 Q51 ∧ ∀ m54 : Mem, Q51 m54 → (vp_in r8 12 ∧ (vp_in (-1) 12 ∧ (∃ Q58 : Mem → Prop, CtV l M_X4_joinTrees G [.ref (gA G 76), .int (m54 78 r8.toNatClampNeg), .int (m54 78 ((-1) : Int32).toNatClampNeg)] m54 Q58 ∧ ∀ m61 : Mem, Q58 m61 → (P 1 m61)))))) ∧ (r47 = (-1) → (P 0 m48))))) ∧ ((m9 78 r8.toNatClampNeg) = (m9 78 ((-1) : Int32).toNatClampNeg) → (P 0 (wr m9 76 2 ((m9 76 2) - 1)))))))) ∧ (((-1) : Int32) = (-1) → (P 0 m9))))))))) :
    XI l M_X4_takeEdge G P mem 0 [(0, .ref (gA G 76)), (1, .ref (gA G g))] [] := by
  refine x_bipush (pc := 0) (v := 97) dX4_takeEdge_0 (by decide) ?_
  refine x_aload_n (pc := 2) dX4_takeEdge_2 1 rfl rfl ?_
  obtain ⟨Q1, hc2, h⟩ := h
  refine x_callVI (pc := 3) g hc2 ok_X1_vertices dX4_takeEdge_3 tb_712 ⟨⟨rfl, rfl⟩, ⟨by decide, by decide⟩, by decide, by decide⟩ (Fo_K0 hg) (Fo_c0 hg _) rfl (As := []) rfl rfl (Nat.le_of_ble_eq_true rfl) (fun r3 m4 q5 => ?_)
  have h := h r3 m4 q5
  refine x_iadd (pc := 6) dX4_takeEdge_6 ?_
  refine x_iconst (pc := 7) (v := 1) dX4_takeEdge_7 (by decide) ?_
  refine x_isub (pc := 8) dX4_takeEdge_8 ?_
  refine x_istore_n (pc := 9) dX4_takeEdge_9 rfl (by decide) rfl ?_
  refine x_aload_n (pc := 10) dX4_takeEdge_10 1 rfl rfl ?_
  refine x_bipush (pc := 11) (v := 97) dX4_takeEdge_11 (by decide) ?_
  refine x_iload_n (pc := 13) dX4_takeEdge_13 0 rfl rfl ?_
  obtain ⟨Q6, hc7, h⟩ := h
  refine x_callVI (pc := 14) 76 hc7 ok_X4_take dX4_takeEdge_14 tb_699 ⟨⟨rfl, rfl⟩, ⟨by decide, by decide⟩, by decide, by decide⟩ (mK hG (by decide)) (mc_76 hG _) rfl (As := [.int 97, .int ((97 + r3) - 1)]) rfl rfl (Nat.le_of_ble_eq_true rfl) (fun r8 m9 q10 => ?_)
  have h := h r8 m9 q10
  refine x_istore_n (pc := 17) dX4_takeEdge_17 rfl (by decide) rfl ?_
  refine x_iload_n (pc := 18) dX4_takeEdge_18 0 rfl rfl ?_
  refine x_iconst (pc := 19) (v := (-1)) dX4_takeEdge_19 (by decide) ?_
  refine x_icmp_ne (pc := 20) (tgt := 27) dX4_takeEdge_20 (by decide) (fun c11 => ?_) (fun c11 => ?_)
  · have h := h.1 c11
    refine x_aload_n (pc := 27) dX4_takeEdge_27 2 rfl rfl ?_
    refine x_bipush (pc := 28) (v := 97) dX4_takeEdge_28 (by decide) ?_
    refine x_iload_n (pc := 30) dX4_takeEdge_30 1 rfl rfl ?_
    obtain ⟨Q12, hc13, h⟩ := h
    refine x_callVI (pc := 31) 76 hc13 ok_X4_take dX4_takeEdge_31 tb_699 ⟨⟨rfl, rfl⟩, ⟨by decide, by decide⟩, by decide, by decide⟩ (mK hG (by decide)) (mc_76 hG _) rfl (As := [.int 97, .int ((97 + r3) - 1)]) rfl rfl (Nat.le_of_ble_eq_true rfl) (fun r14 m15 q16 => ?_)
    have h := h r14 m15 q16
    refine x_istore (pc := 34) dX4_takeEdge_34 (by decide) rfl ?_
    refine x_iload_n (pc := 36) dX4_takeEdge_36 1 rfl rfl ?_
    refine x_iconst (pc := 37) (v := (-1)) dX4_takeEdge_37 (by decide) ?_
    refine x_icmp_eq (pc := 38) (tgt := 47) dX4_takeEdge_38 (by decide) (fun c17 => ?_) (fun c17 => ?_)
    · have h := h.1 c17
      refine x_iconst (pc := 47) (v := 0) dX4_takeEdge_47 (by decide) ?_
      exact x_endZ (pc := 48) dX4_takeEdge_48 rfl (Or.inl rfl) h
    · have h := h.2 c17
      refine x_iload (pc := 41) dX4_takeEdge_41 0 rfl ?_
      refine x_iconst (pc := 43) (v := (-1)) dX4_takeEdge_43 (by decide) ?_
      refine x_icmp_ne (pc := 44) (tgt := 49) dX4_takeEdge_44 (by decide) (fun c18 => ?_) (fun c18 => ?_)
      · have h := h.1 c18
        refine x_aload_n (pc := 49) dX4_takeEdge_49 3 rfl rfl ?_
        refine x_get (pc := 50) 76 3 dX4_takeEdge_50 (mK hG (by decide)) (mc_76 hG _) rfl inX4 (by decide) tb_141 rfl rfl ?_
        refine x_iload_n (pc := 53) dX4_takeEdge_53 1 rfl rfl ?_
        have n19 := h.1
        refine x_iald (pc := 54) 78 dX4_takeEdge_54 (mK hG (by decide)) (mc_78 hG _) n19 ?_
        have h := h.2
        refine x_aload_n (pc := 55) dX4_takeEdge_55 3 rfl rfl ?_
        refine x_get (pc := 56) 76 3 dX4_takeEdge_56 (mK hG (by decide)) (mc_76 hG _) rfl inX4 (by decide) tb_141 rfl rfl ?_
        refine x_iload (pc := 59) dX4_takeEdge_59 0 rfl ?_
        have n20 := h.1
        refine x_iald (pc := 61) 78 dX4_takeEdge_61 (mK hG (by decide)) (mc_78 hG _) n20 ?_
        have h := h.2
        refine x_icmp_ne (pc := 62) (tgt := 77) dX4_takeEdge_62 (by decide) (fun c21 => ?_) (fun c21 => ?_)
        · have h := h.1 c21
          refine x_aload_n (pc := 77) dX4_takeEdge_77 3 rfl rfl ?_
          refine x_iconst (pc := 78) (v := 1) dX4_takeEdge_78 (by decide) ?_
          refine x_bipush (pc := 79) (v := 99) dX4_takeEdge_79 (by decide) ?_
          obtain ⟨Q22, hc23, h⟩ := h
          refine x_callVI (pc := 81) 76 hc23 ok_X4_takeNumber dX4_takeEdge_81 tb_703 ⟨⟨rfl, rfl⟩, ⟨by decide, by decide⟩, by decide, by decide⟩ (mK hG (by decide)) (mc_76 hG _) rfl (As := [.int 1, .int 99]) rfl rfl (Nat.le_of_ble_eq_true rfl) (fun r24 m25 q26 => ?_)
          have h := h r24 m25 q26
          refine x_istore (pc := 84) dX4_takeEdge_84 (by decide) rfl ?_
          refine x_iload (pc := 86) dX4_takeEdge_86 0 rfl ?_
          refine x_iconst (pc := 88) (v := (-1)) dX4_takeEdge_88 (by decide) ?_
          refine x_icmp_ne (pc := 89) (tgt := 94) dX4_takeEdge_89 (by decide) (fun c27 => ?_) (fun c27 => ?_)
          · have h := h.1 c27
            refine x_aload_n (pc := 94) dX4_takeEdge_94 5 rfl rfl ?_
            refine x_iload_n (pc := 95) dX4_takeEdge_95 2 rfl rfl ?_
            refine x_iload (pc := 96) dX4_takeEdge_96 1 rfl ?_
            refine x_iload (pc := 98) dX4_takeEdge_98 0 rfl ?_
            obtain ⟨Q28, hc29, h⟩ := h
            refine x_callVV (pc := 100) g hc29 ok_X1_putEdge dX4_takeEdge_100 tb_722 ⟨⟨rfl, rfl⟩, ⟨by decide, by decide⟩, by decide, by decide⟩ (Fo_K0 hg) (Fo_c0 hg _) rfl (As := [.int r8, .int r14, .int r24]) rfl rfl (Nat.le_of_ble_eq_true rfl) (fun m31 q32 => ?_)
            have h := h m31 q32
            refine x_aload_n (pc := 103) dX4_takeEdge_103 4 rfl rfl ?_
            refine x_aload_n (pc := 104) dX4_takeEdge_104 4 rfl rfl ?_
            refine x_get (pc := 105) 76 3 dX4_takeEdge_105 (mK hG (by decide)) (mc_76 hG _) rfl inX4 (by decide) tb_141 rfl rfl ?_
            refine x_iload_n (pc := 108) dX4_takeEdge_108 2 rfl rfl ?_
            have n33 := h.1
            refine x_iald (pc := 109) 78 dX4_takeEdge_109 (mK hG (by decide)) (mc_78 hG _) n33 ?_
            have h := h.2
            refine x_aload_n (pc := 110) dX4_takeEdge_110 4 rfl rfl ?_
            refine x_get (pc := 111) 76 3 dX4_takeEdge_111 (mK hG (by decide)) (mc_76 hG _) rfl inX4 (by decide) tb_141 rfl rfl ?_
            refine x_iload (pc := 114) dX4_takeEdge_114 1 rfl ?_
            have n34 := h.1
            refine x_iald (pc := 116) 78 dX4_takeEdge_116 (mK hG (by decide)) (mc_78 hG _) n34 ?_
            have h := h.2
            obtain ⟨Q35, hc36, h⟩ := h
            refine x_callVV (pc := 117) 76 hc36 ok_X4_joinTrees dX4_takeEdge_117 tb_723 ⟨⟨rfl, rfl⟩, ⟨by decide, by decide⟩, by decide, by decide⟩ (mK hG (by decide)) (mc_76 hG _) rfl (As := [.int (m31 78 r8.toNatClampNeg), .int (m31 78 r14.toNatClampNeg)]) rfl rfl (Nat.le_of_ble_eq_true rfl) (fun m38 q39 => ?_)
            have h := h m38 q39
            refine x_iconst (pc := 120) (v := 1) dX4_takeEdge_120 (by decide) ?_
            exact x_endZ (pc := 121) dX4_takeEdge_121 rfl (Or.inr rfl) h
          · have h := h.2 c27
            refine x_iconst (pc := 92) (v := 0) dX4_takeEdge_92 (by decide) ?_
            exact x_endZ (pc := 93) dX4_takeEdge_93 rfl (Or.inl rfl) h
        · have h := h.2 c21
          refine x_aload_n (pc := 65) dX4_takeEdge_65 3 rfl rfl ?_
          refine x_dup (pc := 66) dX4_takeEdge_66 rfl ?_
          refine x_get (pc := 67) 76 2 dX4_takeEdge_67 (mK hG (by decide)) (mc_76 hG _) rfl inX4 (by decide) tb_140 rfl rfl ?_
          refine x_iconst (pc := 70) (v := 1) dX4_takeEdge_70 (by decide) ?_
          refine x_isub (pc := 71) dX4_takeEdge_71 ?_
          refine x_put (pc := 72) 76 2 dX4_takeEdge_72 (mK hG (by decide)) (mc_76 hG) rfl inX4 tyX4 tyX4_ok nmX4 (by decide) tb_140 rfl rfl (by decide +kernel) (fun _ => Nat.le_of_ble_eq_true rfl) (fun _ _ => rfl) ?_
          refine x_iconst (pc := 75) (v := 0) dX4_takeEdge_75 (by decide) ?_
          exact x_endZ (pc := 76) dX4_takeEdge_76 rfl (Or.inl rfl) h
      · have h := h.2 c18
        refine x_iconst (pc := 47) (v := 0) dX4_takeEdge_47 (by decide) ?_
        exact x_endZ (pc := 48) dX4_takeEdge_48 rfl (Or.inl rfl) h
  · have h := h.2 c11
    refine x_iconst (pc := 23) (v := (-1)) dX4_takeEdge_23 (by decide) ?_
    refine x_goto (pc := 24) (tgt := 34) dX4_takeEdge_24 (by decide) ?_
    refine x_istore (pc := 34) dX4_takeEdge_34 (by decide) rfl ?_
    refine x_iload_n (pc := 36) dX4_takeEdge_36 1 rfl rfl ?_
    refine x_iconst (pc := 37) (v := (-1)) dX4_takeEdge_37 (by decide) ?_
    refine x_icmp_eq (pc := 38) (tgt := 47) dX4_takeEdge_38 (by decide) (fun c40 => ?_) (fun c40 => ?_)
    · have h := h.1 c40
      refine x_iconst (pc := 47) (v := 0) dX4_takeEdge_47 (by decide) ?_
      exact x_endZ (pc := 48) dX4_takeEdge_48 rfl (Or.inl rfl) h
    · have h := h.2 c40
      refine x_iload (pc := 41) dX4_takeEdge_41 0 rfl ?_
      refine x_iconst (pc := 43) (v := (-1)) dX4_takeEdge_43 (by decide) ?_
      refine x_icmp_ne (pc := 44) (tgt := 49) dX4_takeEdge_44 (by decide) (fun c41 => ?_) (fun c41 => ?_)
      · have h := h.1 c41
        refine x_aload_n (pc := 49) dX4_takeEdge_49 3 rfl rfl ?_
        refine x_get (pc := 50) 76 3 dX4_takeEdge_50 (mK hG (by decide)) (mc_76 hG _) rfl inX4 (by decide) tb_141 rfl rfl ?_
        refine x_iload_n (pc := 53) dX4_takeEdge_53 1 rfl rfl ?_
        have n42 := h.1
        refine x_iald (pc := 54) 78 dX4_takeEdge_54 (mK hG (by decide)) (mc_78 hG _) n42 ?_
        have h := h.2
        refine x_aload_n (pc := 55) dX4_takeEdge_55 3 rfl rfl ?_
        refine x_get (pc := 56) 76 3 dX4_takeEdge_56 (mK hG (by decide)) (mc_76 hG _) rfl inX4 (by decide) tb_141 rfl rfl ?_
        refine x_iload (pc := 59) dX4_takeEdge_59 0 rfl ?_
        have n43 := h.1
        refine x_iald (pc := 61) 78 dX4_takeEdge_61 (mK hG (by decide)) (mc_78 hG _) n43 ?_
        have h := h.2
        refine x_icmp_ne (pc := 62) (tgt := 77) dX4_takeEdge_62 (by decide) (fun c44 => ?_) (fun c44 => ?_)
        · have h := h.1 c44
          refine x_aload_n (pc := 77) dX4_takeEdge_77 3 rfl rfl ?_
          refine x_iconst (pc := 78) (v := 1) dX4_takeEdge_78 (by decide) ?_
          refine x_bipush (pc := 79) (v := 99) dX4_takeEdge_79 (by decide) ?_
          obtain ⟨Q45, hc46, h⟩ := h
          refine x_callVI (pc := 81) 76 hc46 ok_X4_takeNumber dX4_takeEdge_81 tb_703 ⟨⟨rfl, rfl⟩, ⟨by decide, by decide⟩, by decide, by decide⟩ (mK hG (by decide)) (mc_76 hG _) rfl (As := [.int 1, .int 99]) rfl rfl (Nat.le_of_ble_eq_true rfl) (fun r47 m48 q49 => ?_)
          have h := h r47 m48 q49
          refine x_istore (pc := 84) dX4_takeEdge_84 (by decide) rfl ?_
          refine x_iload (pc := 86) dX4_takeEdge_86 0 rfl ?_
          refine x_iconst (pc := 88) (v := (-1)) dX4_takeEdge_88 (by decide) ?_
          refine x_icmp_ne (pc := 89) (tgt := 94) dX4_takeEdge_89 (by decide) (fun c50 => ?_) (fun c50 => ?_)
          · have h := h.1 c50
            refine x_aload_n (pc := 94) dX4_takeEdge_94 5 rfl rfl ?_
            refine x_iload_n (pc := 95) dX4_takeEdge_95 2 rfl rfl ?_
            refine x_iload (pc := 96) dX4_takeEdge_96 1 rfl ?_
            refine x_iload (pc := 98) dX4_takeEdge_98 0 rfl ?_
            obtain ⟨Q51, hc52, h⟩ := h
            refine x_callVV (pc := 100) g hc52 ok_X1_putEdge dX4_takeEdge_100 tb_722 ⟨⟨rfl, rfl⟩, ⟨by decide, by decide⟩, by decide, by decide⟩ (Fo_K0 hg) (Fo_c0 hg _) rfl (As := [.int r8, .int (-1), .int r47]) rfl rfl (Nat.le_of_ble_eq_true rfl) (fun m54 q55 => ?_)
            have h := h m54 q55
            refine x_aload_n (pc := 103) dX4_takeEdge_103 4 rfl rfl ?_
            refine x_aload_n (pc := 104) dX4_takeEdge_104 4 rfl rfl ?_
            refine x_get (pc := 105) 76 3 dX4_takeEdge_105 (mK hG (by decide)) (mc_76 hG _) rfl inX4 (by decide) tb_141 rfl rfl ?_
            refine x_iload_n (pc := 108) dX4_takeEdge_108 2 rfl rfl ?_
            have n56 := h.1
            refine x_iald (pc := 109) 78 dX4_takeEdge_109 (mK hG (by decide)) (mc_78 hG _) n56 ?_
            have h := h.2
            refine x_aload_n (pc := 110) dX4_takeEdge_110 4 rfl rfl ?_
            refine x_get (pc := 111) 76 3 dX4_takeEdge_111 (mK hG (by decide)) (mc_76 hG _) rfl inX4 (by decide) tb_141 rfl rfl ?_
            refine x_iload (pc := 114) dX4_takeEdge_114 1 rfl ?_
            have n57 := h.1
            refine x_iald (pc := 116) 78 dX4_takeEdge_116 (mK hG (by decide)) (mc_78 hG _) n57 ?_
            have h := h.2
            obtain ⟨Q58, hc59, h⟩ := h
            refine x_callVV (pc := 117) 76 hc59 ok_X4_joinTrees dX4_takeEdge_117 tb_723 ⟨⟨rfl, rfl⟩, ⟨by decide, by decide⟩, by decide, by decide⟩ (mK hG (by decide)) (mc_76 hG _) rfl (As := [.int (m54 78 r8.toNatClampNeg), .int (m54 78 ((-1) : Int32).toNatClampNeg)]) rfl rfl (Nat.le_of_ble_eq_true rfl) (fun m61 q62 => ?_)
            have h := h m61 q62
            refine x_iconst (pc := 120) (v := 1) dX4_takeEdge_120 (by decide) ?_
            exact x_endZ (pc := 121) dX4_takeEdge_121 rfl (Or.inr rfl) h
          · have h := h.2 c50
            refine x_iconst (pc := 92) (v := 0) dX4_takeEdge_92 (by decide) ?_
            exact x_endZ (pc := 93) dX4_takeEdge_93 rfl (Or.inl rfl) h
        · have h := h.2 c44
          refine x_aload_n (pc := 65) dX4_takeEdge_65 3 rfl rfl ?_
          refine x_dup (pc := 66) dX4_takeEdge_66 rfl ?_
          refine x_get (pc := 67) 76 2 dX4_takeEdge_67 (mK hG (by decide)) (mc_76 hG _) rfl inX4 (by decide) tb_140 rfl rfl ?_
          refine x_iconst (pc := 70) (v := 1) dX4_takeEdge_70 (by decide) ?_
          refine x_isub (pc := 71) dX4_takeEdge_71 ?_
          refine x_put (pc := 72) 76 2 dX4_takeEdge_72 (mK hG (by decide)) (mc_76 hG) rfl inX4 tyX4 tyX4_ok nmX4 (by decide) tb_140 rfl rfl (by decide +kernel) (fun _ => Nat.le_of_ble_eq_true rfl) (fun _ _ => rfl) ?_
          refine x_iconst (pc := 75) (v := 0) dX4_takeEdge_75 (by decide) ?_
          exact x_endZ (pc := 76) dX4_takeEdge_76 rfl (Or.inl rfl) h
      · have h := h.2 c41
        refine x_iconst (pc := 47) (v := 0) dX4_takeEdge_47 (by decide) ?_
        exact x_endZ (pc := 48) dX4_takeEdge_48 rfl (Or.inl rfl) h
set_option maxRecDepth 100000 in
set_option maxHeartbeats 4000000 in
theorem t_X4_joinTrees_0 {l : Launch} {G : Gx} {P : Mem → Prop} (hG : Mn G) (a1 : Int32) (a2 : Int32) (mem : Mem)
    (h : XV l M_X4_joinTrees G P mem 2 [(0, .ref (gA G 76)), (1, .int a1), (2, .int a2), (3, .int 0)] []) :
    XV l M_X4_joinTrees G P mem 0 [(0, .ref (gA G 76)), (1, .int a1), (2, .int a2)] [] := by
  refine x_iconst (pc := 0) (v := 0) dX4_joinTrees_0 (by decide) ?_
  refine x_istore_n (pc := 1) dX4_joinTrees_1 rfl (by decide) rfl ?_
  exact x_sub [1, 2, 3, 0] rfl h
set_option maxRecDepth 100000 in
set_option maxHeartbeats 4000000 in
theorem t_X4_joinTrees_2 {l : Launch} {G : Gx} {P : Mem → Prop} (hG : Mn G) (a1 : Int32) (a2 : Int32) (a3 : Int32) (mem : Mem)
    (h : (12 ≤ a3 → (P mem)) ∧ (¬ 12 ≤ a3 → (vp_in a3 12 ∧ ((¬ (mem 78 a3.toNatClampNeg) = a2 → (XV l M_X4_joinTrees G P mem 2 [(0, .ref (gA G 76)), (1, .int a1), (2, .int a2), (3, .int (a3 + 1))] [])) ∧ ((mem 78 a3.toNatClampNeg) = a2 → (vp_in a3 12 ∧ (XV l M_X4_joinTrees G P (wr mem 78 a3.toNatClampNeg a1) 2 [(0, .ref (gA G 76)), (1, .int a1), (2, .int a2), (3, .int (a3 + 1))] []))))))) :
    XV l M_X4_joinTrees G P mem 2 [(0, .ref (gA G 76)), (1, .int a1), (2, .int a2), (3, .int a3)] [] := by
  refine x_iload_n (pc := 2) dX4_joinTrees_2 3 rfl rfl ?_
  refine x_bipush (pc := 3) (v := 12) dX4_joinTrees_3 (by decide) ?_
  refine x_icmp_ge (pc := 5) (tgt := 31) dX4_joinTrees_5 (by decide) (fun c1 => ?_) (fun c1 => ?_)
  · have h := h.1 c1
    exact x_endV (pc := 31) dX4_joinTrees_31 rfl h
  · have h := h.2 c1
    refine x_aload_n (pc := 8) dX4_joinTrees_8 0 rfl rfl ?_
    refine x_get (pc := 9) 76 3 dX4_joinTrees_9 (mK hG (by decide)) (mc_76 hG _) rfl inX4 (by decide) tb_141 rfl rfl ?_
    refine x_iload_n (pc := 12) dX4_joinTrees_12 3 rfl rfl ?_
    have n2 := h.1
    refine x_iald (pc := 13) 78 dX4_joinTrees_13 (mK hG (by decide)) (mc_78 hG _) n2 ?_
    have h := h.2
    refine x_iload_n (pc := 14) dX4_joinTrees_14 2 rfl rfl ?_
    refine x_icmp_ne (pc := 15) (tgt := 25) dX4_joinTrees_15 (by decide) (fun c3 => ?_) (fun c3 => ?_)
    · have h := h.1 c3
      refine x_iinc (pc := 25) (v := (a3 + 1)) dX4_joinTrees_25 (k := 3) rfl rfl (by decide) rfl ?_
      refine x_goto (pc := 28) (tgt := 2) dX4_joinTrees_28 (by decide) ?_
      exact x_sub [1, 2, 3, 0] rfl h
    · have h := h.2 c3
      refine x_aload_n (pc := 18) dX4_joinTrees_18 0 rfl rfl ?_
      refine x_get (pc := 19) 76 3 dX4_joinTrees_19 (mK hG (by decide)) (mc_76 hG _) rfl inX4 (by decide) tb_141 rfl rfl ?_
      refine x_iload_n (pc := 22) dX4_joinTrees_22 3 rfl rfl ?_
      refine x_iload_n (pc := 23) dX4_joinTrees_23 1 rfl rfl ?_
      have n4 := h.1
      have h := h.2
      refine x_iast (pc := 24) 78 dX4_joinTrees_24 (mK hG (by decide)) (mc_78 hG) n4 ?_
      refine x_iinc (pc := 25) (v := (a3 + 1)) dX4_joinTrees_25 (k := 3) rfl rfl (by decide) rfl ?_
      refine x_goto (pc := 28) (tgt := 2) dX4_joinTrees_28 (by decide) ?_
      exact x_sub [1, 2, 3, 0] rfl h
set_option maxRecDepth 100000 in
set_option maxHeartbeats 4000000 in
theorem t_X4_takeNumber_0 {l : Launch} {G : Gx} {P : Int32 → Mem → Prop} (hG : Mn G) (a1 : Int32) (a2 : Int32) (mem : Mem)
    (h : ∃ Q1 : Int32 → Mem → Prop, CtI l M_X4_take G [.ref (gA G 76), .int 48, .int (48 + (a2 / 10))] mem Q1 ∧ ∀ (r3 : Int32) (m4 : Mem), Q1 r3 m4 → ((¬ r3 = (-1) → ((¬ r3 = 0 → ((¬ r3 = (a2 / 10) → (∃ Q9 : Int32 → Mem → Prop, CtI l M_X4_take G [.ref (gA G 76), .int (48 + 0), .int (48 + 9)] m4 Q9 ∧ ∀ (r11 : Int32) (m12 : Mem), Q9 r11 m12 → ((¬ r11 = (-1) → (P (((10 * r3) + 0) + r11) m12)) ∧ (r11 = (-1) → (P (-1) m12))))) ∧ (r3 = (a2 / 10) → (∃ Q15 : Int32 → Mem → Prop, CtI l M_X4_take G [.ref (gA G 76), .int (48 + 0), .int (48 + (a2 - a2 / 10 * 10))] m4 Q15 ∧ ∀ (r17 : Int32) (m18 : Mem), Q15 r17 m18 → ((¬ r17 = (-1) → (P (((10 * r3) + 0) + r17) m18)) ∧ (r17 = (-1) → (P (-1) m18))))))) ∧ (r3 = 0 → ((¬ r3 = (a2 / 10) → (∃ Q22 : Int32 → Mem → Prop, CtI l M_X4_take G [.ref (gA G 76), .int (48 + a1), .int (48 + 9)] m4 Q22 ∧ ∀ (r24 : Int32) (m25 : Mem), Q22 r24 m25 → ((¬ r24 = (-1) → (P (((10 * r3) + a1) + r24) m25)) ∧ (r24 = (-1) → (P (-1) m25))))) ∧ (r3 = (a2 / 10) → (∃ Q28 : Int32 → Mem → Prop, CtI l M_X4_take G [.ref (gA G 76), .int (48 + a1), .int (48 + (a2 - a2 / 10 * 10))] m4 Q28 ∧ ∀ (r30 : Int32) (m31 : Mem), Q28 r30 m31 → ((¬ r30 = (-1) → (P (((10 * r3) + a1) + r30) m31)) ∧ (r30 = (-1) → (P (-1) m31))))))))) ∧ (r3 = (-1) → (P (-1) m4)))) :
    XI l M_X4_takeNumber G P mem 0 [(0, .ref (gA G 76)), (1, .int a1), (2, .int a2)] [] := by
  refine x_aload_n (pc := 0) dX4_takeNumber_0 0 rfl rfl ?_
  refine x_bipush (pc := 1) (v := 48) dX4_takeNumber_1 (by decide) ?_
  refine x_bipush (pc := 3) (v := 48) dX4_takeNumber_3 (by decide) ?_
  refine x_iload_n (pc := 5) dX4_takeNumber_5 2 rfl rfl ?_
  refine x_bipush (pc := 6) (v := 10) dX4_takeNumber_6 (by decide) ?_
  refine x_idiv (pc := 8) dX4_takeNumber_8 (by decide) ?_
  refine x_iadd (pc := 9) dX4_takeNumber_9 ?_
  obtain ⟨Q1, hc2, h⟩ := h
  refine x_callVI (pc := 10) 76 hc2 ok_X4_take dX4_takeNumber_10 tb_699 ⟨⟨rfl, rfl⟩, ⟨by decide, by decide⟩, by decide, by decide⟩ (mK hG (by decide)) (mc_76 hG _) rfl (As := [.int 48, .int (48 + (a2 / 10))]) rfl rfl (Nat.le_of_ble_eq_true rfl) (fun r3 m4 q5 => ?_)
  have h := h r3 m4 q5
  refine x_istore_n (pc := 13) dX4_takeNumber_13 rfl (by decide) rfl ?_
  refine x_iload_n (pc := 14) dX4_takeNumber_14 0 rfl rfl ?_
  refine x_iconst (pc := 15) (v := (-1)) dX4_takeNumber_15 (by decide) ?_
  refine x_icmp_ne (pc := 16) (tgt := 21) dX4_takeNumber_16 (by decide) (fun c6 => ?_) (fun c6 => ?_)
  · have h := h.1 c6
    refine x_iload_n (pc := 21) dX4_takeNumber_21 0 rfl rfl ?_
    refine x_if_ne (pc := 22) (tgt := 29) dX4_takeNumber_22 (by decide) (fun c7 => ?_) (fun c7 => ?_)
    · have h := h.1 c7
      refine x_iconst (pc := 29) (v := 0) dX4_takeNumber_29 (by decide) ?_
      refine x_istore (pc := 30) dX4_takeNumber_30 (by decide) rfl ?_
      refine x_iload_n (pc := 32) dX4_takeNumber_32 1 rfl rfl ?_
      refine x_iload_n (pc := 33) dX4_takeNumber_33 4 rfl rfl ?_
      refine x_bipush (pc := 34) (v := 10) dX4_takeNumber_34 (by decide) ?_
      refine x_idiv (pc := 36) dX4_takeNumber_36 (by decide) ?_
      refine x_icmp_ne (pc := 37) (tgt := 47) dX4_takeNumber_37 (by decide) (fun c8 => ?_) (fun c8 => ?_)
      · have h := h.1 c8
        refine x_bipush (pc := 47) (v := 9) dX4_takeNumber_47 (by decide) ?_
        refine x_istore (pc := 49) dX4_takeNumber_49 (by decide) rfl ?_
        refine x_aload_n (pc := 51) dX4_takeNumber_51 3 rfl rfl ?_
        refine x_bipush (pc := 52) (v := 48) dX4_takeNumber_52 (by decide) ?_
        refine x_iload (pc := 54) dX4_takeNumber_54 1 rfl ?_
        refine x_iadd (pc := 56) dX4_takeNumber_56 ?_
        refine x_bipush (pc := 57) (v := 48) dX4_takeNumber_57 (by decide) ?_
        refine x_iload (pc := 59) dX4_takeNumber_59 0 rfl ?_
        refine x_iadd (pc := 61) dX4_takeNumber_61 ?_
        obtain ⟨Q9, hc10, h⟩ := h
        refine x_callVI (pc := 62) 76 hc10 ok_X4_take dX4_takeNumber_62 tb_699 ⟨⟨rfl, rfl⟩, ⟨by decide, by decide⟩, by decide, by decide⟩ (mK hG (by decide)) (mc_76 hG _) rfl (As := [.int (48 + 0), .int (48 + 9)]) rfl rfl (Nat.le_of_ble_eq_true rfl) (fun r11 m12 q13 => ?_)
        have h := h r11 m12 q13
        refine x_istore (pc := 65) dX4_takeNumber_65 (by decide) rfl ?_
        refine x_iload (pc := 67) dX4_takeNumber_67 0 rfl ?_
        refine x_iconst (pc := 69) (v := (-1)) dX4_takeNumber_69 (by decide) ?_
        refine x_icmp_ne (pc := 70) (tgt := 77) dX4_takeNumber_70 (by decide) (fun c14 => ?_) (fun c14 => ?_)
        · have h := h.1 c14
          refine x_bipush (pc := 77) (v := 10) dX4_takeNumber_77 (by decide) ?_
          refine x_iload_n (pc := 79) dX4_takeNumber_79 3 rfl rfl ?_
          refine x_imul (pc := 80) dX4_takeNumber_80 ?_
          refine x_iload (pc := 81) dX4_takeNumber_81 2 rfl ?_
          refine x_iadd (pc := 83) dX4_takeNumber_83 ?_
          refine x_iload (pc := 84) dX4_takeNumber_84 0 rfl ?_
          refine x_iadd (pc := 86) dX4_takeNumber_86 ?_
          exact x_endI (pc := 87) dX4_takeNumber_87 rfl h
        · have h := h.2 c14
          refine x_iconst (pc := 73) (v := (-1)) dX4_takeNumber_73 (by decide) ?_
          refine x_goto (pc := 74) (tgt := 87) dX4_takeNumber_74 (by decide) ?_
          exact x_endI (pc := 87) dX4_takeNumber_87 rfl h
      · have h := h.2 c8
        refine x_iload_n (pc := 40) dX4_takeNumber_40 4 rfl rfl ?_
        refine x_bipush (pc := 41) (v := 10) dX4_takeNumber_41 (by decide) ?_
        refine x_irem (pc := 43) dX4_takeNumber_43 (by decide) ?_
        refine x_goto (pc := 44) (tgt := 49) dX4_takeNumber_44 (by decide) ?_
        refine x_istore (pc := 49) dX4_takeNumber_49 (by decide) rfl ?_
        refine x_aload_n (pc := 51) dX4_takeNumber_51 3 rfl rfl ?_
        refine x_bipush (pc := 52) (v := 48) dX4_takeNumber_52 (by decide) ?_
        refine x_iload (pc := 54) dX4_takeNumber_54 1 rfl ?_
        refine x_iadd (pc := 56) dX4_takeNumber_56 ?_
        refine x_bipush (pc := 57) (v := 48) dX4_takeNumber_57 (by decide) ?_
        refine x_iload (pc := 59) dX4_takeNumber_59 0 rfl ?_
        refine x_iadd (pc := 61) dX4_takeNumber_61 ?_
        obtain ⟨Q15, hc16, h⟩ := h
        refine x_callVI (pc := 62) 76 hc16 ok_X4_take dX4_takeNumber_62 tb_699 ⟨⟨rfl, rfl⟩, ⟨by decide, by decide⟩, by decide, by decide⟩ (mK hG (by decide)) (mc_76 hG _) rfl (As := [.int (48 + 0), .int (48 + (a2 - a2 / 10 * 10))]) rfl rfl (Nat.le_of_ble_eq_true rfl) (fun r17 m18 q19 => ?_)
        have h := h r17 m18 q19
        refine x_istore (pc := 65) dX4_takeNumber_65 (by decide) rfl ?_
        refine x_iload (pc := 67) dX4_takeNumber_67 0 rfl ?_
        refine x_iconst (pc := 69) (v := (-1)) dX4_takeNumber_69 (by decide) ?_
        refine x_icmp_ne (pc := 70) (tgt := 77) dX4_takeNumber_70 (by decide) (fun c20 => ?_) (fun c20 => ?_)
        · have h := h.1 c20
          refine x_bipush (pc := 77) (v := 10) dX4_takeNumber_77 (by decide) ?_
          refine x_iload_n (pc := 79) dX4_takeNumber_79 3 rfl rfl ?_
          refine x_imul (pc := 80) dX4_takeNumber_80 ?_
          refine x_iload (pc := 81) dX4_takeNumber_81 2 rfl ?_
          refine x_iadd (pc := 83) dX4_takeNumber_83 ?_
          refine x_iload (pc := 84) dX4_takeNumber_84 0 rfl ?_
          refine x_iadd (pc := 86) dX4_takeNumber_86 ?_
          exact x_endI (pc := 87) dX4_takeNumber_87 rfl h
        · have h := h.2 c20
          refine x_iconst (pc := 73) (v := (-1)) dX4_takeNumber_73 (by decide) ?_
          refine x_goto (pc := 74) (tgt := 87) dX4_takeNumber_74 (by decide) ?_
          exact x_endI (pc := 87) dX4_takeNumber_87 rfl h
    · have h := h.2 c7
      refine x_iload_n (pc := 25) dX4_takeNumber_25 2 rfl rfl ?_
      refine x_goto (pc := 26) (tgt := 30) dX4_takeNumber_26 (by decide) ?_
      refine x_istore (pc := 30) dX4_takeNumber_30 (by decide) rfl ?_
      refine x_iload_n (pc := 32) dX4_takeNumber_32 1 rfl rfl ?_
      refine x_iload_n (pc := 33) dX4_takeNumber_33 4 rfl rfl ?_
      refine x_bipush (pc := 34) (v := 10) dX4_takeNumber_34 (by decide) ?_
      refine x_idiv (pc := 36) dX4_takeNumber_36 (by decide) ?_
      refine x_icmp_ne (pc := 37) (tgt := 47) dX4_takeNumber_37 (by decide) (fun c21 => ?_) (fun c21 => ?_)
      · have h := h.1 c21
        refine x_bipush (pc := 47) (v := 9) dX4_takeNumber_47 (by decide) ?_
        refine x_istore (pc := 49) dX4_takeNumber_49 (by decide) rfl ?_
        refine x_aload_n (pc := 51) dX4_takeNumber_51 3 rfl rfl ?_
        refine x_bipush (pc := 52) (v := 48) dX4_takeNumber_52 (by decide) ?_
        refine x_iload (pc := 54) dX4_takeNumber_54 1 rfl ?_
        refine x_iadd (pc := 56) dX4_takeNumber_56 ?_
        refine x_bipush (pc := 57) (v := 48) dX4_takeNumber_57 (by decide) ?_
        refine x_iload (pc := 59) dX4_takeNumber_59 0 rfl ?_
        refine x_iadd (pc := 61) dX4_takeNumber_61 ?_
        obtain ⟨Q22, hc23, h⟩ := h
        refine x_callVI (pc := 62) 76 hc23 ok_X4_take dX4_takeNumber_62 tb_699 ⟨⟨rfl, rfl⟩, ⟨by decide, by decide⟩, by decide, by decide⟩ (mK hG (by decide)) (mc_76 hG _) rfl (As := [.int (48 + a1), .int (48 + 9)]) rfl rfl (Nat.le_of_ble_eq_true rfl) (fun r24 m25 q26 => ?_)
        have h := h r24 m25 q26
        refine x_istore (pc := 65) dX4_takeNumber_65 (by decide) rfl ?_
        refine x_iload (pc := 67) dX4_takeNumber_67 0 rfl ?_
        refine x_iconst (pc := 69) (v := (-1)) dX4_takeNumber_69 (by decide) ?_
        refine x_icmp_ne (pc := 70) (tgt := 77) dX4_takeNumber_70 (by decide) (fun c27 => ?_) (fun c27 => ?_)
        · have h := h.1 c27
          refine x_bipush (pc := 77) (v := 10) dX4_takeNumber_77 (by decide) ?_
          refine x_iload_n (pc := 79) dX4_takeNumber_79 3 rfl rfl ?_
          refine x_imul (pc := 80) dX4_takeNumber_80 ?_
          refine x_iload (pc := 81) dX4_takeNumber_81 2 rfl ?_
          refine x_iadd (pc := 83) dX4_takeNumber_83 ?_
          refine x_iload (pc := 84) dX4_takeNumber_84 0 rfl ?_
          refine x_iadd (pc := 86) dX4_takeNumber_86 ?_
          exact x_endI (pc := 87) dX4_takeNumber_87 rfl h
        · have h := h.2 c27
          refine x_iconst (pc := 73) (v := (-1)) dX4_takeNumber_73 (by decide) ?_
          refine x_goto (pc := 74) (tgt := 87) dX4_takeNumber_74 (by decide) ?_
          exact x_endI (pc := 87) dX4_takeNumber_87 rfl h
      · have h := h.2 c21
        refine x_iload_n (pc := 40) dX4_takeNumber_40 4 rfl rfl ?_
        refine x_bipush (pc := 41) (v := 10) dX4_takeNumber_41 (by decide) ?_
        refine x_irem (pc := 43) dX4_takeNumber_43 (by decide) ?_
        refine x_goto (pc := 44) (tgt := 49) dX4_takeNumber_44 (by decide) ?_
        refine x_istore (pc := 49) dX4_takeNumber_49 (by decide) rfl ?_
        refine x_aload_n (pc := 51) dX4_takeNumber_51 3 rfl rfl ?_
        refine x_bipush (pc := 52) (v := 48) dX4_takeNumber_52 (by decide) ?_
        refine x_iload (pc := 54) dX4_takeNumber_54 1 rfl ?_
        refine x_iadd (pc := 56) dX4_takeNumber_56 ?_
        refine x_bipush (pc := 57) (v := 48) dX4_takeNumber_57 (by decide) ?_
        refine x_iload (pc := 59) dX4_takeNumber_59 0 rfl ?_
        refine x_iadd (pc := 61) dX4_takeNumber_61 ?_
        obtain ⟨Q28, hc29, h⟩ := h
        refine x_callVI (pc := 62) 76 hc29 ok_X4_take dX4_takeNumber_62 tb_699 ⟨⟨rfl, rfl⟩, ⟨by decide, by decide⟩, by decide, by decide⟩ (mK hG (by decide)) (mc_76 hG _) rfl (As := [.int (48 + a1), .int (48 + (a2 - a2 / 10 * 10))]) rfl rfl (Nat.le_of_ble_eq_true rfl) (fun r30 m31 q32 => ?_)
        have h := h r30 m31 q32
        refine x_istore (pc := 65) dX4_takeNumber_65 (by decide) rfl ?_
        refine x_iload (pc := 67) dX4_takeNumber_67 0 rfl ?_
        refine x_iconst (pc := 69) (v := (-1)) dX4_takeNumber_69 (by decide) ?_
        refine x_icmp_ne (pc := 70) (tgt := 77) dX4_takeNumber_70 (by decide) (fun c33 => ?_) (fun c33 => ?_)
        · have h := h.1 c33
          refine x_bipush (pc := 77) (v := 10) dX4_takeNumber_77 (by decide) ?_
          refine x_iload_n (pc := 79) dX4_takeNumber_79 3 rfl rfl ?_
          refine x_imul (pc := 80) dX4_takeNumber_80 ?_
          refine x_iload (pc := 81) dX4_takeNumber_81 2 rfl ?_
          refine x_iadd (pc := 83) dX4_takeNumber_83 ?_
          refine x_iload (pc := 84) dX4_takeNumber_84 0 rfl ?_
          refine x_iadd (pc := 86) dX4_takeNumber_86 ?_
          exact x_endI (pc := 87) dX4_takeNumber_87 rfl h
        · have h := h.2 c33
          refine x_iconst (pc := 73) (v := (-1)) dX4_takeNumber_73 (by decide) ?_
          refine x_goto (pc := 74) (tgt := 87) dX4_takeNumber_74 (by decide) ?_
          exact x_endI (pc := 87) dX4_takeNumber_87 rfl h
  · have h := h.2 c6
    refine x_iconst (pc := 19) (v := (-1)) dX4_takeNumber_19 (by decide) ?_
    exact x_endI (pc := 20) dX4_takeNumber_20 rfl h
set_option maxRecDepth 100000 in
set_option maxHeartbeats 4000000 in
theorem t_X4_take_0 {l : Launch} {G : Gx} {P : Int32 → Mem → Prop} (hG : Mn G) (a1 : Int32) (a2 : Int32) (mem : Mem)
    (h : ((mem 76 2) < (mem 76 0) → (vp_in (mem 76 2) 80 ∧ (((mem 77 (mem 76 2).toNatClampNeg) < a1 → (P (-1) mem)) ∧ (¬ (mem 77 (mem 76 2).toNatClampNeg) < a1 → (((mem 77 (mem 76 2).toNatClampNeg) ≤ a2 → (P ((mem 77 (mem 76 2).toNatClampNeg) - a1) (wr mem 76 2 ((mem 76 2) + 1)))) ∧ (¬ (mem 77 (mem 76 2).toNatClampNeg) ≤ a2 → (P (-1) mem))))))) ∧ (¬ (mem 76 2) < (mem 76 0) → (P (-1) mem))) :
    XI l M_X4_take G P mem 0 [(0, .ref (gA G 76)), (1, .int a1), (2, .int a2)] [] := by
  refine x_aload_n (pc := 0) dX4_take_0 0 rfl rfl ?_
  refine x_get (pc := 1) 76 2 dX4_take_1 (mK hG (by decide)) (mc_76 hG _) rfl inX4 (by decide) tb_140 rfl rfl ?_
  refine x_aload_n (pc := 4) dX4_take_4 0 rfl rfl ?_
  refine x_get (pc := 5) 76 0 dX4_take_5 (mK hG (by decide)) (mc_76 hG _) rfl inX4 (by decide) tb_138 rfl rfl ?_
  refine x_icmp_lt (pc := 8) (tgt := 13) dX4_take_8 (by decide) (fun c1 => ?_) (fun c1 => ?_)
  · have h := h.1 c1
    refine x_aload_n (pc := 13) dX4_take_13 0 rfl rfl ?_
    refine x_get (pc := 14) 76 1 dX4_take_14 (mK hG (by decide)) (mc_76 hG _) rfl inX4 (by decide) tb_139 rfl rfl ?_
    refine x_aload_n (pc := 17) dX4_take_17 0 rfl rfl ?_
    refine x_get (pc := 18) 76 2 dX4_take_18 (mK hG (by decide)) (mc_76 hG _) rfl inX4 (by decide) tb_140 rfl rfl ?_
    have n2 := h.1
    refine x_iald (pc := 21) 77 dX4_take_21 (mK hG (by decide)) (mc_77 hG _) n2 ?_
    have h := h.2
    refine x_istore_n (pc := 22) dX4_take_22 rfl (by decide) rfl ?_
    refine x_iload_n (pc := 23) dX4_take_23 0 rfl rfl ?_
    refine x_iload_n (pc := 24) dX4_take_24 2 rfl rfl ?_
    refine x_icmp_lt (pc := 25) (tgt := 33) dX4_take_25 (by decide) (fun c3 => ?_) (fun c3 => ?_)
    · have h := h.1 c3
      refine x_iconst (pc := 33) (v := (-1)) dX4_take_33 (by decide) ?_
      exact x_endI (pc := 34) dX4_take_34 rfl h
    · have h := h.2 c3
      refine x_iload_n (pc := 28) dX4_take_28 0 rfl rfl ?_
      refine x_iload_n (pc := 29) dX4_take_29 3 rfl rfl ?_
      refine x_icmp_le (pc := 30) (tgt := 35) dX4_take_30 (by decide) (fun c4 => ?_) (fun c4 => ?_)
      · have h := h.1 c4
        refine x_aload_n (pc := 35) dX4_take_35 1 rfl rfl ?_
        refine x_dup (pc := 36) dX4_take_36 rfl ?_
        refine x_get (pc := 37) 76 2 dX4_take_37 (mK hG (by decide)) (mc_76 hG _) rfl inX4 (by decide) tb_140 rfl rfl ?_
        refine x_iconst (pc := 40) (v := 1) dX4_take_40 (by decide) ?_
        refine x_iadd (pc := 41) dX4_take_41 ?_
        refine x_put (pc := 42) 76 2 dX4_take_42 (mK hG (by decide)) (mc_76 hG) rfl inX4 tyX4 tyX4_ok nmX4 (by decide) tb_140 rfl rfl (by decide +kernel) (fun _ => Nat.le_of_ble_eq_true rfl) (fun _ _ => rfl) ?_
        refine x_iload_n (pc := 45) dX4_take_45 0 rfl rfl ?_
        refine x_iload_n (pc := 46) dX4_take_46 2 rfl rfl ?_
        refine x_isub (pc := 47) dX4_take_47 ?_
        exact x_endI (pc := 48) dX4_take_48 rfl h
      · have h := h.2 c4
        refine x_iconst (pc := 33) (v := (-1)) dX4_take_33 (by decide) ?_
        exact x_endI (pc := 34) dX4_take_34 rfl h
  · have h := h.2 c1
    refine x_iconst (pc := 11) (v := (-1)) dX4_take_11 (by decide) ?_
    exact x_endI (pc := 12) dX4_take_12 rfl h
