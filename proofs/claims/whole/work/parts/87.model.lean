/-! constructor: WeightedForestModel -/
/-- the new memory while the weights of the start are written -/
def Nw (m0 : Mem) (k : Nat) (m : Mem) : Prop := (∀ i, i ≠ 327 ∧ i ≠ 329 → m i = m0 i) ∧ (∀ j, m 327 j = if j = 3 then 12 else 0) ∧ ∀ v, m 329 v = if v < k then 1 else 0
set_option maxRecDepth 100000 in
set_option maxHeartbeats 4000000 in
theorem now_X7 {l : Launch} {G0 ge : Gx} {m0 : Mem} {cells slots : Nat} {P : Option Value → Gx → Mem → Prop} {a0 : Nat} (hM : Mn ge) (ha : gA ge 327 = a0) (kend : ∀ mk, Nw m0 12 mk → Xm l M_X7_init G0 15 3280 P ge cells slots mk 156 [(1, .int (nI 12)), (0, .ref a0)] []) : ∀ (d k : Nat), k + d = 12 → ∀ (mk : Mem), Nw m0 k mk → Xm l M_X7_init G0 15 3280 P ge cells slots mk 137 [(1, .int (nI k)), (0, .ref a0)] [] := by
  intro d
  induction d with
  | zero =>
    intro k hk mk hw
    have e : k = 12 := by omega
    subst e
    refine x_iload_n (pc := 137) dX7_init_137 0 rfl rfl ?_
    refine x_bipush (pc := 138) (v := 12) dX7_init_138 (by decide) ?_
    exact x_icmp_ge (pc := 140) (tgt := 156) dX7_init_140 (by decide) (fun _ => kend mk hw) (fun z => absurd (by decide) z)
  | succ d ih =>
    intro k hk mk hw
    refine x_iload_n (pc := 137) dX7_init_137 0 rfl rfl ?_
    refine x_bipush (pc := 138) (v := 12) dX7_init_138 (by decide) ?_
    refine x_icmp_ge (pc := 140) (tgt := 156) dX7_init_140 (by decide) (fun z => absurd ((i_nle (a := 12) (by decide) (by omega)).mp z) (by omega)) (fun _ => ?_)
    refine x_aload_n (pc := 143) dX7_init_143 1 rfl rfl ?_
    refine x_eq (st2 := [.ref (gA ge 327)]) rfl rfl (by rw [ha]) ?_
    refine x_get (pc := 144) 327 5 dX7_init_144 (mK hM (by decide)) (mc_327 hM _) rfl inX7 (by decide) tb_716 rfl rfl ?_
    refine x_iload_n (pc := 147) dX7_init_147 0 rfl rfl ?_
    refine x_iconst (pc := 148) (v := 1) dX7_init_148 (by decide) ?_
    refine x_iast (pc := 149) 329 dX7_init_149 (Ra_K (r_329 hM)) (Ra_c (r_329 hM)) (i_in (by omega) (by decide)) ?_
    rw [i_cl (by omega)]
    refine x_iinc (pc := 150) (k := 0) (v := nI (k + 1)) (lv' := [(1, .int (nI (k + 1))), (0, .ref a0)]) dX7_init_150 rfl (nI_1 k) (by decide) rfl ?_
    refine x_goto (pc := 153) (tgt := 137) dX7_init_153 (by decide) ?_
    refine ih (k + 1) (by omega) _ ⟨fun i hi => ?_, fun j => ?_, fun v => ?_⟩
    · exact (if_neg hi.2).trans (hw.1 i hi)
    · exact (congrFun (if_neg (by decide)) j).trans (hw.2.1 j)
    · show (if (329 : Nat) = 329 then upd (mk 329) k 1 else mk 329) v = _
      rw [if_pos rfl]
      unfold upd
      by_cases c : v = k
      · rw [if_pos c, if_pos (by omega)]
      · rw [if_neg c, hw.2.2 v]
        by_cases c2 : v < k
        · rw [if_pos c2, if_pos (by omega)]
        · rw [if_neg c2, if_neg (by omega)]
set_option maxRecDepth 100000 in
set_option maxHeartbeats 4000000 in
theorem i_X7 {l : Launch} {G : Gx} {mem : Mem} (hK : gK G = 328) (hO : gO G 327 = some (.inr (7, [.null, .int 0, .int 0, .int 0, .int 0, .null, .null, .null, .null, .int 0, .int 0, .null, .null, .null, .int 0, .null, .null, .null, .null, .null, .null, .null, .int 0, .int 0]))) (hCl : Cl G) (hN : ∀ j, j < 327 → gO G j = none) : Ctg l M_X7_init G 15 3280 [.ref (gA G 327)] mem (fun o G' m' => o = none ∧ (gD G' = gD G ∧ gC G' = gC G) ∧ Mn G' ∧ (∀ i, i ≤ 327 → gA G' i = gA G i) ∧ (∀ i, i < 327 → m' i = mem i) ∧ (∀ i, 330 ≤ i → i < 343 → m' i = fun _ => 0) ∧ m' 328 = (fun _ => 0) ∧ (∀ j, m' 327 j = if j = 3 then 12 else 0) ∧ ∀ v, m' 329 v = if v < 12 then 1 else 0) := by
  refine Ctg.of (by decide) (Nat.le_of_ble_eq_true rfl) rfl ?_
  have B0 := Bd.nil hK hO hCl (fun _ => rI (gC G) 0 (fun _ => 0)) (fun _ => 0)
  refine x_aload_n (pc := 0) dX7_init_0 0 rfl rfl ?_
  refine x_objI (pc := 1) dX7_init_1 tb_710 tb_74 tb_75 (Nat.le_of_ble_eq_true rfl) (Nat.le_of_ble_eq_true rfl) (by decide) ?_
  refine x_aload_n (pc := 4) dX7_init_4 0 rfl rfl ?_
  refine x_bipush (pc := 5) (v := 80) dX7_init_5 (by decide) ?_
  refine x_newaI (pc := 7) (N := 80) B0.cl dX7_init_7 tb_107 (by decide) rfl (Nat.le_of_ble_eq_true rfl) (Nat.le_of_ble_eq_true rfl) (Nat.le_of_ble_eq_true rfl) (fun q1 => ?_)
  have B1n := B0.put q1 (rI (gC G) 80 (fun _ => 0))
  generalize gPut G q1 (rI (gC G) 80 (fun _ => 0)) = g1n at B1n ⊢
  refine x_eq (st2 := [.ref q1, .ref (gA g1n 327)]) rfl rfl (by rw [B1n.a]) ?_
  refine x_putR (pc := 9) 327 0 (ty := tyX7 0) rfl dX7_init_9 B1n.k B1n.o rfl inX7 tyX7 tyX7_ok nmX7 (by decide) tb_711 rfl rfl rfl (tyX7_ok 0 (by decide)) rfl rfl (Nat.le_of_ble_eq_true rfl) ?_
  have B2n := B1n.set (.inr (7, [.ref q1, .int 0, .int 0, .int 0, .int 0, .null, .null, .null, .null, .int 0, .int 0, .null, .null, .null, .int 0, .null, .null, .null, .null, .null, .null, .null, .int 0, .int 0]))
  refine x_cast (G' := gSet g1n 327 (.inr (7, [.ref q1, .int 0, .int 0, .int 0, .int 0, .null, .null, .null, .null, .int 0, .int 0, .null, .null, .null, .int 0, .null, .null, .null, .null, .null, .null, .null, .int 0, .int 0]))) rfl ?_
  generalize gSet g1n 327 (.inr (7, [.ref q1, .int 0, .int 0, .int 0, .int 0, .null, .null, .null, .null, .int 0, .int 0, .null, .null, .null, .int 0, .null, .null, .null, .null, .null, .null, .null, .int 0, .int 0])) = g2n at B2n ⊢
  refine x_aload_n (pc := 12) dX7_init_12 0 rfl rfl ?_
  refine x_sipush (pc := 13) (v := 156) dX7_init_13 (by decide) ?_
  refine x_newaI (pc := 16) (N := 156) B2n.cl dX7_init_16 tb_107 (by decide) rfl (Nat.le_of_ble_eq_true rfl) (Nat.le_of_ble_eq_true rfl) (Nat.le_of_ble_eq_true rfl) (fun q3 => ?_)
  have B3n := B2n.put q3 (rI (gC g2n) 156 (fun _ => 0))
  generalize gPut g2n q3 (rI (gC g2n) 156 (fun _ => 0)) = g3n at B3n ⊢
  rw [B2n.1.2] at B3n
  refine x_eq (st2 := [.ref q3, .ref (gA g3n 327)]) rfl rfl (by rw [B3n.a]) ?_
  refine x_putR (pc := 18) 327 5 (ty := tyX7 5) rfl dX7_init_18 B3n.k B3n.o rfl inX7 tyX7 tyX7_ok nmX7 (by decide) tb_716 rfl rfl rfl (tyX7_ok 5 (by decide)) rfl rfl (Nat.le_of_ble_eq_true rfl) ?_
  have B4n := B3n.set (.inr (7, [.ref q1, .int 0, .int 0, .int 0, .int 0, .ref q3, .null, .null, .null, .int 0, .int 0, .null, .null, .null, .int 0, .null, .null, .null, .null, .null, .null, .null, .int 0, .int 0]))
  refine x_cast (G' := gSet g3n 327 (.inr (7, [.ref q1, .int 0, .int 0, .int 0, .int 0, .ref q3, .null, .null, .null, .int 0, .int 0, .null, .null, .null, .int 0, .null, .null, .null, .null, .null, .null, .null, .int 0, .int 0]))) rfl ?_
  generalize gSet g3n 327 (.inr (7, [.ref q1, .int 0, .int 0, .int 0, .int 0, .ref q3, .null, .null, .null, .int 0, .int 0, .null, .null, .null, .int 0, .null, .null, .null, .null, .null, .null, .null, .int 0, .int 0])) = g4n at B4n ⊢
  refine x_aload_n (pc := 21) dX7_init_21 0 rfl rfl ?_
  refine x_sipush (pc := 22) (v := 156) dX7_init_22 (by decide) ?_
  refine x_newaI (pc := 25) (N := 156) B4n.cl dX7_init_25 tb_107 (by decide) rfl (Nat.le_of_ble_eq_true rfl) (Nat.le_of_ble_eq_true rfl) (Nat.le_of_ble_eq_true rfl) (fun q5 => ?_)
  have B5n := B4n.put q5 (rI (gC g4n) 156 (fun _ => 0))
  generalize gPut g4n q5 (rI (gC g4n) 156 (fun _ => 0)) = g5n at B5n ⊢
  rw [B4n.1.2] at B5n
  refine x_eq (st2 := [.ref q5, .ref (gA g5n 327)]) rfl rfl (by rw [B5n.a]) ?_
  refine x_putR (pc := 27) 327 6 (ty := tyX7 6) rfl dX7_init_27 B5n.k B5n.o rfl inX7 tyX7 tyX7_ok nmX7 (by decide) tb_717 rfl rfl rfl (tyX7_ok 6 (by decide)) rfl rfl (Nat.le_of_ble_eq_true rfl) ?_
  have B6n := B5n.set (.inr (7, [.ref q1, .int 0, .int 0, .int 0, .int 0, .ref q3, .ref q5, .null, .null, .int 0, .int 0, .null, .null, .null, .int 0, .null, .null, .null, .null, .null, .null, .null, .int 0, .int 0]))
  refine x_cast (G' := gSet g5n 327 (.inr (7, [.ref q1, .int 0, .int 0, .int 0, .int 0, .ref q3, .ref q5, .null, .null, .int 0, .int 0, .null, .null, .null, .int 0, .null, .null, .null, .null, .null, .null, .null, .int 0, .int 0]))) rfl ?_
  generalize gSet g5n 327 (.inr (7, [.ref q1, .int 0, .int 0, .int 0, .int 0, .ref q3, .ref q5, .null, .null, .int 0, .int 0, .null, .null, .null, .int 0, .null, .null, .null, .null, .null, .null, .null, .int 0, .int 0])) = g6n at B6n ⊢
  refine x_aload_n (pc := 30) dX7_init_30 0 rfl rfl ?_
  refine x_sipush (pc := 31) (v := 156) dX7_init_31 (by decide) ?_
  refine x_newaI (pc := 34) (N := 156) B6n.cl dX7_init_34 tb_107 (by decide) rfl (Nat.le_of_ble_eq_true rfl) (Nat.le_of_ble_eq_true rfl) (Nat.le_of_ble_eq_true rfl) (fun q7 => ?_)
  have B7n := B6n.put q7 (rI (gC g6n) 156 (fun _ => 0))
  generalize gPut g6n q7 (rI (gC g6n) 156 (fun _ => 0)) = g7n at B7n ⊢
  rw [B6n.1.2] at B7n
  refine x_eq (st2 := [.ref q7, .ref (gA g7n 327)]) rfl rfl (by rw [B7n.a]) ?_
  refine x_putR (pc := 36) 327 7 (ty := tyX7 7) rfl dX7_init_36 B7n.k B7n.o rfl inX7 tyX7 tyX7_ok nmX7 (by decide) tb_718 rfl rfl rfl (tyX7_ok 7 (by decide)) rfl rfl (Nat.le_of_ble_eq_true rfl) ?_
  have B8n := B7n.set (.inr (7, [.ref q1, .int 0, .int 0, .int 0, .int 0, .ref q3, .ref q5, .ref q7, .null, .int 0, .int 0, .null, .null, .null, .int 0, .null, .null, .null, .null, .null, .null, .null, .int 0, .int 0]))
  refine x_cast (G' := gSet g7n 327 (.inr (7, [.ref q1, .int 0, .int 0, .int 0, .int 0, .ref q3, .ref q5, .ref q7, .null, .int 0, .int 0, .null, .null, .null, .int 0, .null, .null, .null, .null, .null, .null, .null, .int 0, .int 0]))) rfl ?_
  generalize gSet g7n 327 (.inr (7, [.ref q1, .int 0, .int 0, .int 0, .int 0, .ref q3, .ref q5, .ref q7, .null, .int 0, .int 0, .null, .null, .null, .int 0, .null, .null, .null, .null, .null, .null, .null, .int 0, .int 0])) = g8n at B8n ⊢
  refine x_aload_n (pc := 39) dX7_init_39 0 rfl rfl ?_
  refine x_sipush (pc := 40) (v := 2184) dX7_init_40 (by decide) ?_
  refine x_newaI (pc := 43) (N := 2184) B8n.cl dX7_init_43 tb_107 (by decide) rfl (Nat.le_of_ble_eq_true rfl) (Nat.le_of_ble_eq_true rfl) (Nat.le_of_ble_eq_true rfl) (fun q9 => ?_)
  have B9n := B8n.put q9 (rI (gC g8n) 2184 (fun _ => 0))
  generalize gPut g8n q9 (rI (gC g8n) 2184 (fun _ => 0)) = g9n at B9n ⊢
  rw [B8n.1.2] at B9n
  refine x_eq (st2 := [.ref q9, .ref (gA g9n 327)]) rfl rfl (by rw [B9n.a]) ?_
  refine x_putR (pc := 45) 327 8 (ty := tyX7 8) rfl dX7_init_45 B9n.k B9n.o rfl inX7 tyX7 tyX7_ok nmX7 (by decide) tb_719 rfl rfl rfl (tyX7_ok 8 (by decide)) rfl rfl (Nat.le_of_ble_eq_true rfl) ?_
  have B10n := B9n.set (.inr (7, [.ref q1, .int 0, .int 0, .int 0, .int 0, .ref q3, .ref q5, .ref q7, .ref q9, .int 0, .int 0, .null, .null, .null, .int 0, .null, .null, .null, .null, .null, .null, .null, .int 0, .int 0]))
  refine x_cast (G' := gSet g9n 327 (.inr (7, [.ref q1, .int 0, .int 0, .int 0, .int 0, .ref q3, .ref q5, .ref q7, .ref q9, .int 0, .int 0, .null, .null, .null, .int 0, .null, .null, .null, .null, .null, .null, .null, .int 0, .int 0]))) rfl ?_
  generalize gSet g9n 327 (.inr (7, [.ref q1, .int 0, .int 0, .int 0, .int 0, .ref q3, .ref q5, .ref q7, .ref q9, .int 0, .int 0, .null, .null, .null, .int 0, .null, .null, .null, .null, .null, .null, .null, .int 0, .int 0])) = g10n at B10n ⊢
  refine x_aload_n (pc := 48) dX7_init_48 0 rfl rfl ?_
  refine x_sipush (pc := 49) (v := 312) dX7_init_49 (by decide) ?_
  refine x_newaI (pc := 52) (N := 312) B10n.cl dX7_init_52 tb_107 (by decide) rfl (Nat.le_of_ble_eq_true rfl) (Nat.le_of_ble_eq_true rfl) (Nat.le_of_ble_eq_true rfl) (fun q11 => ?_)
  have B11n := B10n.put q11 (rI (gC g10n) 312 (fun _ => 0))
  generalize gPut g10n q11 (rI (gC g10n) 312 (fun _ => 0)) = g11n at B11n ⊢
  rw [B10n.1.2] at B11n
  refine x_eq (st2 := [.ref q11, .ref (gA g11n 327)]) rfl rfl (by rw [B11n.a]) ?_
  refine x_putR (pc := 54) 327 11 (ty := tyX7 11) rfl dX7_init_54 B11n.k B11n.o rfl inX7 tyX7 tyX7_ok nmX7 (by decide) tb_722 rfl rfl rfl (tyX7_ok 11 (by decide)) rfl rfl (Nat.le_of_ble_eq_true rfl) ?_
  have B12n := B11n.set (.inr (7, [.ref q1, .int 0, .int 0, .int 0, .int 0, .ref q3, .ref q5, .ref q7, .ref q9, .int 0, .int 0, .ref q11, .null, .null, .int 0, .null, .null, .null, .null, .null, .null, .null, .int 0, .int 0]))
  refine x_cast (G' := gSet g11n 327 (.inr (7, [.ref q1, .int 0, .int 0, .int 0, .int 0, .ref q3, .ref q5, .ref q7, .ref q9, .int 0, .int 0, .ref q11, .null, .null, .int 0, .null, .null, .null, .null, .null, .null, .null, .int 0, .int 0]))) rfl ?_
  generalize gSet g11n 327 (.inr (7, [.ref q1, .int 0, .int 0, .int 0, .int 0, .ref q3, .ref q5, .ref q7, .ref q9, .int 0, .int 0, .ref q11, .null, .null, .int 0, .null, .null, .null, .null, .null, .null, .null, .int 0, .int 0])) = g12n at B12n ⊢
  refine x_aload_n (pc := 57) dX7_init_57 0 rfl rfl ?_
  refine x_iconst (pc := 58) (v := 2) dX7_init_58 (by decide) ?_
  refine x_newaZ (pc := 59) (N := 2) B12n.cl dX7_init_59 tb_154 (by decide) rfl (Nat.le_of_ble_eq_true rfl) (Nat.le_of_ble_eq_true rfl) (Nat.le_of_ble_eq_true rfl) (fun q13 => ?_)
  have B13n := B12n.put q13 (rZ (gC g12n) 2 (fun _ => 0))
  generalize gPut g12n q13 (rZ (gC g12n) 2 (fun _ => 0)) = g13n at B13n ⊢
  rw [B12n.1.2] at B13n
  refine x_eq (st2 := [.ref q13, .ref (gA g13n 327)]) rfl rfl (by rw [B13n.a]) ?_
  refine x_putR (pc := 61) 327 12 (ty := tyX7 12) rfl dX7_init_61 B13n.k B13n.o rfl inX7 tyX7 tyX7_ok nmX7 (by decide) tb_723 rfl rfl rfl (tyX7_ok 12 (by decide)) rfl rfl (Nat.le_of_ble_eq_true rfl) ?_
  have B14n := B13n.set (.inr (7, [.ref q1, .int 0, .int 0, .int 0, .int 0, .ref q3, .ref q5, .ref q7, .ref q9, .int 0, .int 0, .ref q11, .ref q13, .null, .int 0, .null, .null, .null, .null, .null, .null, .null, .int 0, .int 0]))
  refine x_cast (G' := gSet g13n 327 (.inr (7, [.ref q1, .int 0, .int 0, .int 0, .int 0, .ref q3, .ref q5, .ref q7, .ref q9, .int 0, .int 0, .ref q11, .ref q13, .null, .int 0, .null, .null, .null, .null, .null, .null, .null, .int 0, .int 0]))) rfl ?_
  generalize gSet g13n 327 (.inr (7, [.ref q1, .int 0, .int 0, .int 0, .int 0, .ref q3, .ref q5, .ref q7, .ref q9, .int 0, .int 0, .ref q11, .ref q13, .null, .int 0, .null, .null, .null, .null, .null, .null, .null, .int 0, .int 0])) = g14n at B14n ⊢
  refine x_aload_n (pc := 64) dX7_init_64 0 rfl rfl ?_
  refine x_bipush (pc := 65) (v := 18) dX7_init_65 (by decide) ?_
  refine x_newaI (pc := 67) (N := 18) B14n.cl dX7_init_67 tb_107 (by decide) rfl (Nat.le_of_ble_eq_true rfl) (Nat.le_of_ble_eq_true rfl) (Nat.le_of_ble_eq_true rfl) (fun q15 => ?_)
  have B15n := B14n.put q15 (rI (gC g14n) 18 (fun _ => 0))
  generalize gPut g14n q15 (rI (gC g14n) 18 (fun _ => 0)) = g15n at B15n ⊢
  rw [B14n.1.2] at B15n
  refine x_eq (st2 := [.ref q15, .ref (gA g15n 327)]) rfl rfl (by rw [B15n.a]) ?_
  refine x_putR (pc := 69) 327 13 (ty := tyX7 13) rfl dX7_init_69 B15n.k B15n.o rfl inX7 tyX7 tyX7_ok nmX7 (by decide) tb_724 rfl rfl rfl (tyX7_ok 13 (by decide)) rfl rfl (Nat.le_of_ble_eq_true rfl) ?_
  have B16n := B15n.set (.inr (7, [.ref q1, .int 0, .int 0, .int 0, .int 0, .ref q3, .ref q5, .ref q7, .ref q9, .int 0, .int 0, .ref q11, .ref q13, .ref q15, .int 0, .null, .null, .null, .null, .null, .null, .null, .int 0, .int 0]))
  refine x_cast (G' := gSet g15n 327 (.inr (7, [.ref q1, .int 0, .int 0, .int 0, .int 0, .ref q3, .ref q5, .ref q7, .ref q9, .int 0, .int 0, .ref q11, .ref q13, .ref q15, .int 0, .null, .null, .null, .null, .null, .null, .null, .int 0, .int 0]))) rfl ?_
  generalize gSet g15n 327 (.inr (7, [.ref q1, .int 0, .int 0, .int 0, .int 0, .ref q3, .ref q5, .ref q7, .ref q9, .int 0, .int 0, .ref q11, .ref q13, .ref q15, .int 0, .null, .null, .null, .null, .null, .null, .null, .int 0, .int 0])) = g16n at B16n ⊢
  refine x_aload_n (pc := 72) dX7_init_72 0 rfl rfl ?_
  refine x_bipush (pc := 73) (v := 12) dX7_init_73 (by decide) ?_
  refine x_newaI (pc := 75) (N := 12) B16n.cl dX7_init_75 tb_107 (by decide) rfl (Nat.le_of_ble_eq_true rfl) (Nat.le_of_ble_eq_true rfl) (Nat.le_of_ble_eq_true rfl) (fun q17 => ?_)
  have B17n := B16n.put q17 (rI (gC g16n) 12 (fun _ => 0))
  generalize gPut g16n q17 (rI (gC g16n) 12 (fun _ => 0)) = g17n at B17n ⊢
  rw [B16n.1.2] at B17n
  refine x_eq (st2 := [.ref q17, .ref (gA g17n 327)]) rfl rfl (by rw [B17n.a]) ?_
  refine x_putR (pc := 77) 327 15 (ty := tyX7 15) rfl dX7_init_77 B17n.k B17n.o rfl inX7 tyX7 tyX7_ok nmX7 (by decide) tb_726 rfl rfl rfl (tyX7_ok 15 (by decide)) rfl rfl (Nat.le_of_ble_eq_true rfl) ?_
  have B18n := B17n.set (.inr (7, [.ref q1, .int 0, .int 0, .int 0, .int 0, .ref q3, .ref q5, .ref q7, .ref q9, .int 0, .int 0, .ref q11, .ref q13, .ref q15, .int 0, .ref q17, .null, .null, .null, .null, .null, .null, .int 0, .int 0]))
  refine x_cast (G' := gSet g17n 327 (.inr (7, [.ref q1, .int 0, .int 0, .int 0, .int 0, .ref q3, .ref q5, .ref q7, .ref q9, .int 0, .int 0, .ref q11, .ref q13, .ref q15, .int 0, .ref q17, .null, .null, .null, .null, .null, .null, .int 0, .int 0]))) rfl ?_
  generalize gSet g17n 327 (.inr (7, [.ref q1, .int 0, .int 0, .int 0, .int 0, .ref q3, .ref q5, .ref q7, .ref q9, .int 0, .int 0, .ref q11, .ref q13, .ref q15, .int 0, .ref q17, .null, .null, .null, .null, .null, .null, .int 0, .int 0])) = g18n at B18n ⊢
  refine x_aload_n (pc := 80) dX7_init_80 0 rfl rfl ?_
  refine x_bipush (pc := 81) (v := 12) dX7_init_81 (by decide) ?_
  refine x_newaI (pc := 83) (N := 12) B18n.cl dX7_init_83 tb_107 (by decide) rfl (Nat.le_of_ble_eq_true rfl) (Nat.le_of_ble_eq_true rfl) (Nat.le_of_ble_eq_true rfl) (fun q19 => ?_)
  have B19n := B18n.put q19 (rI (gC g18n) 12 (fun _ => 0))
  generalize gPut g18n q19 (rI (gC g18n) 12 (fun _ => 0)) = g19n at B19n ⊢
  rw [B18n.1.2] at B19n
  refine x_eq (st2 := [.ref q19, .ref (gA g19n 327)]) rfl rfl (by rw [B19n.a]) ?_
  refine x_putR (pc := 85) 327 16 (ty := tyX7 16) rfl dX7_init_85 B19n.k B19n.o rfl inX7 tyX7 tyX7_ok nmX7 (by decide) tb_727 rfl rfl rfl (tyX7_ok 16 (by decide)) rfl rfl (Nat.le_of_ble_eq_true rfl) ?_
  have B20n := B19n.set (.inr (7, [.ref q1, .int 0, .int 0, .int 0, .int 0, .ref q3, .ref q5, .ref q7, .ref q9, .int 0, .int 0, .ref q11, .ref q13, .ref q15, .int 0, .ref q17, .ref q19, .null, .null, .null, .null, .null, .int 0, .int 0]))
  refine x_cast (G' := gSet g19n 327 (.inr (7, [.ref q1, .int 0, .int 0, .int 0, .int 0, .ref q3, .ref q5, .ref q7, .ref q9, .int 0, .int 0, .ref q11, .ref q13, .ref q15, .int 0, .ref q17, .ref q19, .null, .null, .null, .null, .null, .int 0, .int 0]))) rfl ?_
  generalize gSet g19n 327 (.inr (7, [.ref q1, .int 0, .int 0, .int 0, .int 0, .ref q3, .ref q5, .ref q7, .ref q9, .int 0, .int 0, .ref q11, .ref q13, .ref q15, .int 0, .ref q17, .ref q19, .null, .null, .null, .null, .null, .int 0, .int 0])) = g20n at B20n ⊢
  refine x_aload_n (pc := 88) dX7_init_88 0 rfl rfl ?_
  refine x_bipush (pc := 89) (v := 12) dX7_init_89 (by decide) ?_
  refine x_newaI (pc := 91) (N := 12) B20n.cl dX7_init_91 tb_107 (by decide) rfl (Nat.le_of_ble_eq_true rfl) (Nat.le_of_ble_eq_true rfl) (Nat.le_of_ble_eq_true rfl) (fun q21 => ?_)
  have B21n := B20n.put q21 (rI (gC g20n) 12 (fun _ => 0))
  generalize gPut g20n q21 (rI (gC g20n) 12 (fun _ => 0)) = g21n at B21n ⊢
  rw [B20n.1.2] at B21n
  refine x_eq (st2 := [.ref q21, .ref (gA g21n 327)]) rfl rfl (by rw [B21n.a]) ?_
  refine x_putR (pc := 93) 327 17 (ty := tyX7 17) rfl dX7_init_93 B21n.k B21n.o rfl inX7 tyX7 tyX7_ok nmX7 (by decide) tb_728 rfl rfl rfl (tyX7_ok 17 (by decide)) rfl rfl (Nat.le_of_ble_eq_true rfl) ?_
  have B22n := B21n.set (.inr (7, [.ref q1, .int 0, .int 0, .int 0, .int 0, .ref q3, .ref q5, .ref q7, .ref q9, .int 0, .int 0, .ref q11, .ref q13, .ref q15, .int 0, .ref q17, .ref q19, .ref q21, .null, .null, .null, .null, .int 0, .int 0]))
  refine x_cast (G' := gSet g21n 327 (.inr (7, [.ref q1, .int 0, .int 0, .int 0, .int 0, .ref q3, .ref q5, .ref q7, .ref q9, .int 0, .int 0, .ref q11, .ref q13, .ref q15, .int 0, .ref q17, .ref q19, .ref q21, .null, .null, .null, .null, .int 0, .int 0]))) rfl ?_
  generalize gSet g21n 327 (.inr (7, [.ref q1, .int 0, .int 0, .int 0, .int 0, .ref q3, .ref q5, .ref q7, .ref q9, .int 0, .int 0, .ref q11, .ref q13, .ref q15, .int 0, .ref q17, .ref q19, .ref q21, .null, .null, .null, .null, .int 0, .int 0])) = g22n at B22n ⊢
  refine x_aload_n (pc := 96) dX7_init_96 0 rfl rfl ?_
  refine x_sipush (pc := 97) (v := 144) dX7_init_97 (by decide) ?_
  refine x_newaI (pc := 100) (N := 144) B22n.cl dX7_init_100 tb_107 (by decide) rfl (Nat.le_of_ble_eq_true rfl) (Nat.le_of_ble_eq_true rfl) (Nat.le_of_ble_eq_true rfl) (fun q23 => ?_)
  have B23n := B22n.put q23 (rI (gC g22n) 144 (fun _ => 0))
  generalize gPut g22n q23 (rI (gC g22n) 144 (fun _ => 0)) = g23n at B23n ⊢
  rw [B22n.1.2] at B23n
  refine x_eq (st2 := [.ref q23, .ref (gA g23n 327)]) rfl rfl (by rw [B23n.a]) ?_
  refine x_putR (pc := 102) 327 18 (ty := tyX7 18) rfl dX7_init_102 B23n.k B23n.o rfl inX7 tyX7 tyX7_ok nmX7 (by decide) tb_729 rfl rfl rfl (tyX7_ok 18 (by decide)) rfl rfl (Nat.le_of_ble_eq_true rfl) ?_
  have B24n := B23n.set (.inr (7, [.ref q1, .int 0, .int 0, .int 0, .int 0, .ref q3, .ref q5, .ref q7, .ref q9, .int 0, .int 0, .ref q11, .ref q13, .ref q15, .int 0, .ref q17, .ref q19, .ref q21, .ref q23, .null, .null, .null, .int 0, .int 0]))
  refine x_cast (G' := gSet g23n 327 (.inr (7, [.ref q1, .int 0, .int 0, .int 0, .int 0, .ref q3, .ref q5, .ref q7, .ref q9, .int 0, .int 0, .ref q11, .ref q13, .ref q15, .int 0, .ref q17, .ref q19, .ref q21, .ref q23, .null, .null, .null, .int 0, .int 0]))) rfl ?_
  generalize gSet g23n 327 (.inr (7, [.ref q1, .int 0, .int 0, .int 0, .int 0, .ref q3, .ref q5, .ref q7, .ref q9, .int 0, .int 0, .ref q11, .ref q13, .ref q15, .int 0, .ref q17, .ref q19, .ref q21, .ref q23, .null, .null, .null, .int 0, .int 0])) = g24n at B24n ⊢
  refine x_aload_n (pc := 105) dX7_init_105 0 rfl rfl ?_
  refine x_bipush (pc := 106) (v := 12) dX7_init_106 (by decide) ?_
  refine x_newaZ (pc := 108) (N := 12) B24n.cl dX7_init_108 tb_154 (by decide) rfl (Nat.le_of_ble_eq_true rfl) (Nat.le_of_ble_eq_true rfl) (Nat.le_of_ble_eq_true rfl) (fun q25 => ?_)
  have B25n := B24n.put q25 (rZ (gC g24n) 12 (fun _ => 0))
  generalize gPut g24n q25 (rZ (gC g24n) 12 (fun _ => 0)) = g25n at B25n ⊢
  rw [B24n.1.2] at B25n
  refine x_eq (st2 := [.ref q25, .ref (gA g25n 327)]) rfl rfl (by rw [B25n.a]) ?_
  refine x_putR (pc := 110) 327 19 (ty := tyX7 19) rfl dX7_init_110 B25n.k B25n.o rfl inX7 tyX7 tyX7_ok nmX7 (by decide) tb_730 rfl rfl rfl (tyX7_ok 19 (by decide)) rfl rfl (Nat.le_of_ble_eq_true rfl) ?_
  have B26n := B25n.set (.inr (7, [.ref q1, .int 0, .int 0, .int 0, .int 0, .ref q3, .ref q5, .ref q7, .ref q9, .int 0, .int 0, .ref q11, .ref q13, .ref q15, .int 0, .ref q17, .ref q19, .ref q21, .ref q23, .ref q25, .null, .null, .int 0, .int 0]))
  refine x_cast (G' := gSet g25n 327 (.inr (7, [.ref q1, .int 0, .int 0, .int 0, .int 0, .ref q3, .ref q5, .ref q7, .ref q9, .int 0, .int 0, .ref q11, .ref q13, .ref q15, .int 0, .ref q17, .ref q19, .ref q21, .ref q23, .ref q25, .null, .null, .int 0, .int 0]))) rfl ?_
  generalize gSet g25n 327 (.inr (7, [.ref q1, .int 0, .int 0, .int 0, .int 0, .ref q3, .ref q5, .ref q7, .ref q9, .int 0, .int 0, .ref q11, .ref q13, .ref q15, .int 0, .ref q17, .ref q19, .ref q21, .ref q23, .ref q25, .null, .null, .int 0, .int 0])) = g26n at B26n ⊢
  refine x_aload_n (pc := 113) dX7_init_113 0 rfl rfl ?_
  refine x_bipush (pc := 114) (v := 12) dX7_init_114 (by decide) ?_
  refine x_newaZ (pc := 116) (N := 12) B26n.cl dX7_init_116 tb_154 (by decide) rfl (Nat.le_of_ble_eq_true rfl) (Nat.le_of_ble_eq_true rfl) (Nat.le_of_ble_eq_true rfl) (fun q27 => ?_)
  have B27n := B26n.put q27 (rZ (gC g26n) 12 (fun _ => 0))
  generalize gPut g26n q27 (rZ (gC g26n) 12 (fun _ => 0)) = g27n at B27n ⊢
  rw [B26n.1.2] at B27n
  refine x_eq (st2 := [.ref q27, .ref (gA g27n 327)]) rfl rfl (by rw [B27n.a]) ?_
  refine x_putR (pc := 118) 327 20 (ty := tyX7 20) rfl dX7_init_118 B27n.k B27n.o rfl inX7 tyX7 tyX7_ok nmX7 (by decide) tb_731 rfl rfl rfl (tyX7_ok 20 (by decide)) rfl rfl (Nat.le_of_ble_eq_true rfl) ?_
  have B28n := B27n.set (.inr (7, [.ref q1, .int 0, .int 0, .int 0, .int 0, .ref q3, .ref q5, .ref q7, .ref q9, .int 0, .int 0, .ref q11, .ref q13, .ref q15, .int 0, .ref q17, .ref q19, .ref q21, .ref q23, .ref q25, .ref q27, .null, .int 0, .int 0]))
  refine x_cast (G' := gSet g27n 327 (.inr (7, [.ref q1, .int 0, .int 0, .int 0, .int 0, .ref q3, .ref q5, .ref q7, .ref q9, .int 0, .int 0, .ref q11, .ref q13, .ref q15, .int 0, .ref q17, .ref q19, .ref q21, .ref q23, .ref q25, .ref q27, .null, .int 0, .int 0]))) rfl ?_
  generalize gSet g27n 327 (.inr (7, [.ref q1, .int 0, .int 0, .int 0, .int 0, .ref q3, .ref q5, .ref q7, .ref q9, .int 0, .int 0, .ref q11, .ref q13, .ref q15, .int 0, .ref q17, .ref q19, .ref q21, .ref q23, .ref q25, .ref q27, .null, .int 0, .int 0])) = g28n at B28n ⊢
  refine x_aload_n (pc := 121) dX7_init_121 0 rfl rfl ?_
  refine x_bipush (pc := 122) (v := 12) dX7_init_122 (by decide) ?_
  refine x_newaI (pc := 124) (N := 12) B28n.cl dX7_init_124 tb_107 (by decide) rfl (Nat.le_of_ble_eq_true rfl) (Nat.le_of_ble_eq_true rfl) (Nat.le_of_ble_eq_true rfl) (fun q29 => ?_)
  have B29n := B28n.put q29 (rI (gC g28n) 12 (fun _ => 0))
  generalize gPut g28n q29 (rI (gC g28n) 12 (fun _ => 0)) = g29n at B29n ⊢
  rw [B28n.1.2] at B29n
  refine x_eq (st2 := [.ref q29, .ref (gA g29n 327)]) rfl rfl (by rw [B29n.a]) ?_
  refine x_putR (pc := 126) 327 21 (ty := tyX7 21) rfl dX7_init_126 B29n.k B29n.o rfl inX7 tyX7 tyX7_ok nmX7 (by decide) tb_732 rfl rfl rfl (tyX7_ok 21 (by decide)) rfl rfl (Nat.le_of_ble_eq_true rfl) ?_
  have B30n := B29n.set (.inr (7, [.ref q1, .int 0, .int 0, .int 0, .int 0, .ref q3, .ref q5, .ref q7, .ref q9, .int 0, .int 0, .ref q11, .ref q13, .ref q15, .int 0, .ref q17, .ref q19, .ref q21, .ref q23, .ref q25, .ref q27, .ref q29, .int 0, .int 0]))
  refine x_cast (G' := gSet g29n 327 (.inr (7, [.ref q1, .int 0, .int 0, .int 0, .int 0, .ref q3, .ref q5, .ref q7, .ref q9, .int 0, .int 0, .ref q11, .ref q13, .ref q15, .int 0, .ref q17, .ref q19, .ref q21, .ref q23, .ref q25, .ref q27, .ref q29, .int 0, .int 0]))) rfl ?_
  generalize gSet g29n 327 (.inr (7, [.ref q1, .int 0, .int 0, .int 0, .int 0, .ref q3, .ref q5, .ref q7, .ref q9, .int 0, .int 0, .ref q11, .ref q13, .ref q15, .int 0, .ref q17, .ref q19, .ref q21, .ref q23, .ref q25, .ref q27, .ref q29, .int 0, .int 0])) = g30n at B30n ⊢
  have a328 : gA g30n 328 = q1 := (B30n.2.2.2.2.2.2 328 (by omega) (by omega)).2.trans rfl
  have a329 : gA g30n 329 = q3 := (B30n.2.2.2.2.2.2 329 (by omega) (by omega)).2.trans rfl
  have a330 : gA g30n 330 = q5 := (B30n.2.2.2.2.2.2 330 (by omega) (by omega)).2.trans rfl
  have a331 : gA g30n 331 = q7 := (B30n.2.2.2.2.2.2 331 (by omega) (by omega)).2.trans rfl
  have a332 : gA g30n 332 = q9 := (B30n.2.2.2.2.2.2 332 (by omega) (by omega)).2.trans rfl
  have a333 : gA g30n 333 = q11 := (B30n.2.2.2.2.2.2 333 (by omega) (by omega)).2.trans rfl
  have a334 : gA g30n 334 = q13 := (B30n.2.2.2.2.2.2 334 (by omega) (by omega)).2.trans rfl
  have a335 : gA g30n 335 = q15 := (B30n.2.2.2.2.2.2 335 (by omega) (by omega)).2.trans rfl
  have a336 : gA g30n 336 = q17 := (B30n.2.2.2.2.2.2 336 (by omega) (by omega)).2.trans rfl
  have a337 : gA g30n 337 = q19 := (B30n.2.2.2.2.2.2 337 (by omega) (by omega)).2.trans rfl
  have a338 : gA g30n 338 = q21 := (B30n.2.2.2.2.2.2 338 (by omega) (by omega)).2.trans rfl
  have a339 : gA g30n 339 = q23 := (B30n.2.2.2.2.2.2 339 (by omega) (by omega)).2.trans rfl
  have a340 : gA g30n 340 = q25 := (B30n.2.2.2.2.2.2 340 (by omega) (by omega)).2.trans rfl
  have a341 : gA g30n 341 = q27 := (B30n.2.2.2.2.2.2 341 (by omega) (by omega)).2.trans rfl
  have a342 : gA g30n 342 = q29 := (B30n.2.2.2.2.2.2 342 (by omega) (by omega)).2.trans rfl
  refine B30n.view ?_ ?_ ?_
  · refine Eq.trans (b := .inr (7, [.ref (gA g30n 328), .int 0, .int 0, .int 0, .int 0, .ref (gA g30n 329), .ref (gA g30n 330), .ref (gA g30n 331), .ref (gA g30n 332), .int 0, .int 0, .ref (gA g30n 333), .ref (gA g30n 334), .ref (gA g30n 335), .int 0, .ref (gA g30n 336), .ref (gA g30n 337), .ref (gA g30n 338), .ref (gA g30n 339), .ref (gA g30n 340), .ref (gA g30n 341), .ref (gA g30n 342), .int 0, .int 0])) rfl ?_
    rw [a328, a329, a330, a331, a332, a333, a334, a335, a336, a337, a338, a339, a340, a341, a342]
  · intro j h1 h2
    have cs : j = 328 ∨ j = 329 ∨ j = 330 ∨ j = 331 ∨ j = 332 ∨ j = 333 ∨ j = 334 ∨ j = 335 ∨ j = 336 ∨ j = 337 ∨ j = 338 ∨ j = 339 ∨ j = 340 ∨ j = 341 ∨ j = 342 := by omega
    rcases cs with rfl | rfl | rfl | rfl | rfl | rfl | rfl | rfl | rfl | rfl | rfl | rfl | rfl | rfl | rfl <;> rfl
  · have hM : Mn (gEnd G g30n 327) := ⟨B30n.2.1, fun j => by
      show (if j < 327 then gO G j else none) = none
      by_cases c : j < 327
      · rw [if_pos c]; exact hN j c
      · rw [if_neg c]⟩
    have aE : gA (gEnd G g30n 327) 327 = gA G 327 := B30n.a
    have aE2 : ∀ i, i ≤ 327 → gA (gEnd G g30n 327) i = gA G i := B30n.2.2.1
    have eD : gD (gEnd G g30n 327) = gD G ∧ gC (gEnd G g30n 327) = gC G := ⟨rfl, rfl⟩
    generalize gEnd G g30n 327 = ge at hM aE aE2 eD ⊢
    refine x_aload_n (pc := 129) dX7_init_129 0 rfl rfl ?_
    refine x_bipush (pc := 130) (v := 12) dX7_init_130 (by decide) ?_
    refine x_eq (st2 := [.int 12, .ref (gA ge 327)]) rfl rfl (by rw [aE]) ?_
    refine x_put (pc := 132) 327 3 dX7_init_132 (mK hM (by decide)) (mc_327 hM) rfl inX7 tyX7 tyX7_ok nmX7 (by decide) tb_714 rfl rfl (by decide +kernel) (fun _ => Nat.le_of_ble_eq_true rfl) (fun _ _ => rfl) ?_
    refine x_iconst (pc := 135) (v := 0) dX7_init_135 (by decide) ?_
    refine x_istore_n (pc := 136) (lv' := [(1, .int (nI 0)), (0, .ref (gA G 327))]) dX7_init_136 rfl (by decide) rfl ?_
    refine now_X7 (m0 := mEnd mem 327) hM aE (fun mk hk => ?_) 12 0 rfl _ ⟨fun i hi => if_neg hi.1, fun j => ?_, fun v => ?_⟩
    · exact x_vret (pc := 156) dX7_init_156 rfl eD.1 eD.2 ⟨rfl, eD, hM, aE2, fun i hi => (hk.1 i (by omega)).trans (if_pos hi), fun i hi hi2 => (hk.1 i (by omega)).trans (if_neg (by omega)), (hk.1 328 (by decide)).trans (if_neg (by decide)), hk.2.1, hk.2.2⟩
    · show (if (327 : Nat) = 327 then upd (mEnd mem 327 327) 3 12 else mEnd mem 327 327) j = _
      rw [if_pos rfl]
      unfold upd mEnd
      rw [if_neg (Nat.lt_irrefl _)]
    · show (if (329 : Nat) = 327 then upd (mEnd mem 327 327) 3 12 else mEnd mem 327 329) v = _
      rw [if_neg (by decide), if_neg (Nat.not_lt_zero v)]
      unfold mEnd
      rw [if_neg (by decide)]
