/-! constructor: History -/
theorem top_H {j : Nat} (h1 : 79 ≤ j) (h2 : j < 291) : top j ≤ 291 := by
  unfold top
  rw [if_neg (by omega), if_neg (by omega), if_neg (by omega), if_neg (by omega), if_neg (by omega), if_neg (by omega), if_neg (by omega)]
  by_cases c : j < 81
  · rw [if_pos c]; exact Nat.le_refl _
  · rw [if_neg c, if_pos h2]; omega
/-- the world while a row of forests is filled -/
def Rw_H (G Gk : Gx) (k : Nat) (fs : List Value) : Prop := (gD Gk = gD G ∧ gC Gk = gC G) ∧ gK Gk = 81 + 15 * k ∧ (∀ i, i < 81 → gA Gk i = gA G i) ∧ (∀ i, i < 81 → i ≠ 80 → gO Gk i = gO G i) ∧ gO Gk 79 = some (.inr (2, fs)) ∧ gO Gk 80 = some (rF (gC G) 14 (fun j => if j < k then some (gA Gk (81 + 15 * j)) else none)) ∧ (∀ i, 81 ≤ i → i < 81 + 15 * k → gO Gk i = none) ∧ Cl Gk
set_option maxRecDepth 100000 in
set_option maxHeartbeats 4000000 in
theorem fill_H {l : Launch} {G0 G : Gx} {mem : Mem} {P : Option Value → Gx → Mem → Prop} {fs : List Value} {a0 : Nat} (ha0 : gA G 79 = a0) (hg : fs[0]? = some (.ref (gA G 80))) (kend : ∀ (Gk : Gx) (mk : Mem), Rw_H G Gk 14 fs → (∀ i, i < 81 → mk i = mem i) → Xm l M_X2_init G0 211 2408 P Gk (1 + 15 * 14) (14 + 171 * 14) mk 40 [(1, .int (nI 14)), (0, .ref a0)] []) : ∀ (d k : Nat), k + d = 14 → ∀ (Gk : Gx) (mk : Mem), Rw_H G Gk k fs → (∀ i, i < 81 → mk i = mem i) → Xm l M_X2_init G0 211 2408 P Gk (1 + 15 * k) (14 + 171 * k) mk 15 [(1, .int (nI k)), (0, .ref a0)] [] := by
  intro d
  induction d with
  | zero =>
    intro k hk Gk mk hR hm
    have e : k = 14 := by omega
    subst e
    refine x_iload_n (pc := 15) dX2_init_15 0 rfl rfl ?_
    refine x_bipush (pc := 16) (v := 14) dX2_init_16 (by decide) ?_
    exact x_icmp_ge (pc := 18) (tgt := 40) dX2_init_18 (by decide) (fun _ => kend Gk mk hR hm) (fun z => absurd (by decide) z)
  | succ d ih =>
    intro k hk Gk mk hR hm
    obtain ⟨r1, r2, r3, r4, r5, r6, r7, r8⟩ := hR
    have ao : gA Gk 79 = a0 := (r3 79 (by omega)).trans ha0
    have ar : gA Gk 80 = gA G 80 := r3 80 (by omega)
    refine x_iload_n (pc := 15) dX2_init_15 0 rfl rfl ?_
    refine x_bipush (pc := 16) (v := 14) dX2_init_16 (by decide) ?_
    refine x_icmp_ge (pc := 18) (tgt := 40) dX2_init_18 (by decide) (fun z => absurd ((i_nle (a := 14) (by decide) (by omega)).mp z) (by omega)) (fun _ => ?_)
    refine x_aload_n (pc := 21) dX2_init_21 1 rfl rfl ?_
    refine x_eq (st2 := [.ref (gA Gk 79)]) rfl rfl (by rw [ao]) ?_
    refine x_get (pc := 22) 79 0 dX2_init_22 (by rw [r2]; omega) (cR_some r5) rfl inX2 (by decide) tb_160 rfl hg ?_
    refine x_iload_n (pc := 25) dX2_init_25 0 rfl rfl ?_
    refine x_new (pc := 26) (ci := 1) (fs := [.int 0, .null, .null]) r8 dX2_init_26 rfl inX1 tyX1 tyX1_ok tb_157 tb_54 tb_32 (fun j hj => by rcases (by omega : j = 0 ∨ j = 1 ∨ j = 2) with rfl | rfl | rfl <;> rfl) (by show _ ≤ 211; omega) (by show _ ≤ 2408; omega) (fun q => ?_)
    have k1 : gK (gPut Gk q (.inr (1, [.int 0, .null, .null]))) = 81 + 15 * k + 1 := congrArg (· + 1) r2
    have a1 : ∀ i, i < 81 + 15 * k → gA (gPut Gk q (.inr (1, [.int 0, .null, .null]))) i = gA Gk i := fun i hi => if_neg (by omega)
    have a2 : gA (gPut Gk q (.inr (1, [.int 0, .null, .null]))) (81 + 15 * k) = q := if_pos r2.symm
    have o1 : ∀ i, i < 81 + 15 * k → gO (gPut Gk q (.inr (1, [.int 0, .null, .null]))) i = gO Gk i := fun i hi => if_neg (by omega)
    have o2 : gO (gPut Gk q (.inr (1, [.int 0, .null, .null]))) (81 + 15 * k) = some (.inr (1, [.int 0, .null, .null])) := if_pos r2.symm
    have c1 : Cl (gPut Gk q (.inr (1, [.int 0, .null, .null]))) := r8.put
    have d1 : gD (gPut Gk q (.inr (1, [.int 0, .null, .null]))) = gD G ∧ gC (gPut Gk q (.inr (1, [.int 0, .null, .null]))) = gC G := r1
    generalize gPut Gk q (.inr (1, [.int 0, .null, .null])) = G1 at k1 a1 a2 o1 o2 c1 d1 ⊢
    have hb : isF (81 + 15 * k) = true := by unfold isF; simp only [Bool.or_eq_true, Bool.and_eq_true, decide_eq_true_eq, beq_iff_eq]; omega
    refine x_dup (pc := 29) dX2_init_29 rfl ?_
    refine x_eq (st2 := [.ref (gA G1 (81 + 15 * k)), .ref q, .int (nI k), .ref (gA G 80)]) rfl rfl (by rw [a2]) ?_
    refine x_callI (pc := 30) (81 + 15 * k) (i_Forest hb k1 o2 c1) ok_X1_init dX2_init_30 tb_159 ⟨⟨rfl, rfl⟩, ⟨Nat.le_of_ble_eq_true rfl, Nat.le_of_ble_eq_true rfl⟩, by show _ ≤ 211; omega, by show _ ≤ 2408; omega⟩ (As := []) rfl rfl (Nat.le_of_ble_eq_true rfl) (fun v G' m' hv _ _ => ?_)
    obtain ⟨rfl, ⟨g1, g2, g3, g4, g5, g6, g7⟩, -⟩ := hv
    have e1 : gA G' (81 + 15 * k) = q := (g3 _ (Nat.le_refl _)).trans a2
    have e2 : gA G' 80 = gA G 80 := (g3 80 (by omega)).trans ((a1 80 (by omega)).trans ar)
    have e3 : gO G' 80 = some (rF (gC G') 14 (fun j => if j < k then some (gA Gk (81 + 15 * j)) else none)) := by rw [g4 80 (by omega), o1 80 (by omega), r6, g1.2, d1.2]
    have hf : Fo G' (81 + 15 * k) := ⟨hb, by rw [g2]; omega, fun i hi => g5 _ (by omega) (by omega)⟩
    refine x_eq (st2 := [.ref (gA G' (81 + 15 * k)), .int (nI k), .ref (gA G' 80)]) rfl rfl (by rw [e1, e2]; rfl) ?_
    refine x_astF (pc := 33) 80 (81 + 15 * k) dX2_init_33 (by rw [g2]; omega) e3 (by rw [g2]; omega) (Fo_c0 hf _) (i_in (by omega) (by decide)) ?_
    rw [i_cl (by omega)]
    refine x_iinc (pc := 34) (k := 0) (v := nI (k + 1)) (lv' := [(1, .int (nI (k + 1))), (0, .ref a0)]) dX2_init_34 rfl (nI_1 k) (by decide) rfl ?_
    refine x_goto (pc := 37) (tgt := 15) dX2_init_37 (by decide) ?_
    refine x_widen (c2 := 1 + 15 * (k + 1)) (s2 := 14 + 171 * (k + 1)) (by omega) (by omega) ?_
    have bO : ∀ i, gO (gSet G' 80 (rF (gC G') 14 (va_up (fun j => if j < k then some (gA Gk (81 + 15 * j)) else none) k (some (gA G' (81 + 15 * k)))))) i = if i = 80 then some (rF (gC G') 14 (va_up (fun j => if j < k then some (gA Gk (81 + 15 * j)) else none) k (some (gA G' (81 + 15 * k))))) else gO G' i := fun _ => rfl
    refine ih (k + 1) (by omega) _ m' ⟨⟨g1.1.trans d1.1, g1.2.trans d1.2⟩, ?_, fun i hi => ?_, fun i hi hne => ?_, ?_, ?_, fun i h1 h2 => ?_, g6.set⟩ (fun i hi => (g7 i (by omega)).trans (hm i hi))
    · show gK G' = _
      rw [g2]; omega
    · show gA G' i = _
      rw [g3 i (by omega), a1 i (by omega), r3 i hi]
    · rw [bO, if_neg hne, g4 i (by omega), o1 i (by omega), r4 i hi hne]
    · rw [bO, if_neg (by decide), g4 79 (by omega), o1 79 (by omega), r5]
    · rw [bO, if_pos rfl, g1.2, d1.2]
      refine congrArg (fun f => some (rF (gC G) 14 f)) ?_
      funext j
      unfold va_up
      by_cases cj : j = k
      · rw [if_pos cj, if_pos (by omega), cj]; rfl
      · rw [if_neg cj]
        show (if j < k then some (gA Gk (81 + 15 * j)) else none) = (if j < k + 1 then some (gA G' (81 + 15 * j)) else none)
        by_cases cj2 : j < k
        · rw [if_pos cj2, if_pos (by omega)]
          rw [g3 _ (by omega), a1 _ (by omega)]
        · rw [if_neg cj2, if_neg (by omega)]
    · rw [bO, if_neg (by omega)]
      by_cases ci : i < 81 + 15 * k
      · rw [g4 i ci, o1 i ci]; exact r7 i h1 ci
      · exact g5 i (by omega) (by omega)
set_option maxRecDepth 100000 in
set_option maxHeartbeats 4000000 in
theorem i_Hist {l : Launch} {G : Gx} {mem : Mem} (hK : gK G = 80) (hO : gO G 79 = some (.inr (2, [.null, .int 0, .int 0]))) (hCl : Cl G) : Ctg l M_X2_init G 211 2408 [.ref (gA G 79)] mem (fun o G' m' => o = none ∧ Gr G G' 79 291 mem m' ∧ m' 79 = fun _ => 0) := by
  refine Ctg.of (by decide) (Nat.le_of_ble_eq_true rfl) rfl ?_
  have B0 := Bd.nil hK hO hCl (fun _ => rI (gC G) 0 (fun _ => 0)) (fun _ => 0)
  refine x_aload_n (pc := 0) dX2_init_0 0 rfl rfl ?_
  refine x_objI (pc := 1) dX2_init_1 tb_156 tb_51 tb_52 (Nat.le_of_ble_eq_true rfl) (Nat.le_of_ble_eq_true rfl) (by decide) ?_
  refine x_aload_n (pc := 4) dX2_init_4 0 rfl rfl ?_
  refine x_bipush (pc := 5) (v := 14) dX2_init_5 (by decide) ?_
  refine x_newF (pc := 7) (N := 14) hCl dX2_init_7 tb_157 (by decide) rfl (Nat.le_of_ble_eq_true rfl) (Nat.le_of_ble_eq_true rfl) (Nat.le_of_ble_eq_true rfl) (fun q1 => ?_)
  have B1 := B0.put q1 (rF (gC G) 14 (fun _ => none))
  generalize gPut G q1 (rF (gC G) 14 (fun _ => none)) = g1 at B1 ⊢
  refine x_eq (st2 := [.ref q1, .ref (gA g1 79)]) rfl rfl (by rw [B1.a]) ?_
  refine x_putR (pc := 10) 79 0 (ty := tyX2 0) rfl dX2_init_10 B1.k B1.o rfl inX2 tyX2 tyX2_ok nmX2 (by decide) tb_160 rfl rfl rfl (tyX2_ok 0 (by decide)) rfl rfl (by decide) ?_
  have B2 := B1.set (.inr (2, [.ref q1, .int 0, .int 0]))
  refine x_cast (G' := gSet g1 79 (.inr (2, [.ref q1, .int 0, .int 0]))) rfl ?_
  generalize gSet g1 79 (.inr (2, [.ref q1, .int 0, .int 0])) = g2 at B2 ⊢
  have c80 := B2.2.2.2.2.2.2 80 (by omega) (by omega)
  have a80 : gA g2 80 = q1 := c80.2.trans rfl
  have o80 : gO g2 80 = some (rF (gC G) 14 (fun _ => none)) := c80.1.trans rfl
  obtain ⟨b1, b2, b3, b4, b5, b6, -⟩ := B2
  refine x_iconst (pc := 13) (v := 0) dX2_init_13 (by decide) ?_
  refine x_istore_n (pc := 14) (lv' := [(1, .int (nI 0)), (0, .ref (gA G 79))]) dX2_init_14 rfl (by decide) rfl ?_
  refine fill_H (G := g2) (mem := mem) (fs := [.ref q1, .int 0, .int 0]) (a0 := gA G 79) (b3 79 (Nat.le_refl _)) (by rw [a80]; rfl) ?_ 14 0 rfl g2 mem ⟨⟨rfl, rfl⟩, b2, fun _ _ => rfl, fun _ _ _ => rfl, b5, ?_, fun i h1 h2 => by omega, b6⟩ (fun _ _ => rfl)
  · intro Gk mk hR hm
    obtain ⟨r1, r2, r3, r4, r5, r6, r7, r8⟩ := hR
    refine x_view (G' := gEnd G Gk 79) (mem' := fun j => if j = 79 ∨ j = 80 then (fun _ => 0) else mk j) (r1.1.trans b1.1).symm (r1.2.trans b1.2).symm rfl (fun j hj => ⟨rfl, ?_⟩) ?_
    · have eC : gC Gk = gC G := r1.2.trans b1.2
      by_cases c : j < 79
      · have e : gO (gEnd G Gk 79) j = gO Gk j := by
          rw [r4 j (by omega) (by omega), b4 j c]; exact if_pos c
        try dsimp only
        rw [if_neg (by omega)]
        cases hh : gO Gk j with
        | some x => rw [cR_some hh, cR_some (e.trans hh)]
        | none => rw [cR_none hh, cR_none (e.trans hh), eC]; rfl
      · have e : gO (gEnd G Gk 79) j = none := if_neg c
        rw [cR_none e]
        try dsimp only
        by_cases c1 : j = 79
        · subst c1
          rw [if_pos (Or.inl rfl), cR_some r5]
          refine Eq.trans (b := .inr (2, [.ref (gA Gk 80), .int 0, .int 0])) rfl ?_
          rw [r3 80 (by omega), a80]
        · by_cases c2 : j = 80
          · subst c2
            rw [if_pos (Or.inr rfl), cR_some r6, b1.2]
            rfl
          · rw [if_neg (by omega), cR_none (r7 j (by omega) (by rw [r2] at hj; exact hj)), eC]
            rfl
    · refine x_vret (pc := 40) dX2_init_40 rfl rfl rfl ⟨rfl, ⟨⟨rfl, rfl⟩, r2, fun i hi => ?_, fun i hi => if_pos hi, fun i hi hi2 => if_neg (by omega), fun j hj hn ad had r => ?_, fun i hi => ?_⟩, if_pos (Or.inl rfl)⟩
      · show gA Gk i = _
        rw [r3 i (by omega)]; exact b3 i hi
      · have hj : j < gK Gk := hj
        by_cases c : j < 79
        · have e : gO (gEnd G Gk 79) j = gO Gk j := by
            rw [r4 j (by omega) (by omega), b4 j c]; exact if_pos c
          have := r8 j hj (e.symm.trans hn) ad had r
          rw [r1.2, b1.2] at this
          exact this
        · exact cl_all (fun k hk => had k (by show k < gK Gk; have := top_H (j := j) (by omega) (by omega); omega))
      · dsimp only
        rw [if_neg (by omega)]
        exact hm i (by omega)
  · rw [o80, b1.2]
    refine congrArg (fun f => some (rF (gC G) 14 f)) ?_
    funext j
    rw [if_neg (Nat.not_lt_zero j)]
