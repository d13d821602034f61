/-! THE LAW: its start -/
theorem aa_spec {args : Array Value} {s : State} (h : (Cond.arrayOver (.array .int)).before args s = true) : ∃ (comp c : ClassId) (k : Class), s.vm.classes[c]? = some k ∧ k.kind = .array comp (.array .int) ∧ s.vm.findClass ("[" ++ (FieldType.array .int).toString) = some c := by
  unfold Cond.before Cond.holds at h
  simp only [Cond.value, beq_iff_eq] at h
  cases hc : s.vm.findClass (FieldType.array .int).toString with
  | none => simp [hc] at h
  | some comp =>
    simp only [hc, Option.bind_some, Option.bind_eq_some_iff, Option.map_eq_some_iff] at h
    obtain ⟨c, hi, k, hk, hb⟩ := h
    cases hkind : k.kind with
    | array component ty =>
      rw [hkind] at hb
      simp at hb
      exact ⟨component, c, k, hk, by rw [hkind, hb.1], hb.2⟩
    | _ => rw [hkind] at hb; simp at hb
theorem k_arr {args : Array Value} {s : State} (hI : (Cond.arrayClass .int).before args s = true) (hZ : (Cond.arrayClass .boolean).before args s = true) (hF : (Cond.arrayOver (.object RX1)).before args s = true) (hR : (Cond.arrayOver (.array .int)).before args s = true) : ∃ cs : ClassId × ClassId × ClassId × ClassId, ∀ (k : Nat) (q : ClassId × FieldType), (T4 cs)[k]? = some q → ArrOfT s q.1 q.2 ∧ va_RA s q.1 q.2 := by
  obtain ⟨cI, kI, pI, i1, i2, i3⟩ := Cond.arrayClass_spec hI
  obtain ⟨cZ, kZ, pZ, z1, z2, z3⟩ := Cond.arrayClass_spec hZ
  obtain ⟨pF, cF, kF, g1, g2, g3, g4, g5⟩ := Cond.arrayOver_spec hF
  obtain ⟨pR, cR, kR, r1, r2, r3⟩ := aa_spec hR
  refine ⟨(cI, cZ, cF, cR), fun k q hq => ?_⟩
  match k, hq with
  | 0, hq => cases hq; exact ⟨fun n z => ⟨fun k h => (by cases h), kI, i2, pI, i3⟩, i1⟩
  | 1, hq => cases hq; exact ⟨fun n z => ⟨fun k h => (by cases h), kZ, z2, pZ, z3⟩, z1⟩
  | 2, hq => cases hq; exact ⟨fun n z => ⟨fun k h => (by cases h), kF, g3, pF, g4⟩, kF, pF, g3, g4, g1, g5⟩
  | 3, hq => cases hq; exact ⟨fun n z => ⟨fun k h => (by cases h), kR, r1, pR, r2⟩, r3⟩
  | k + 4, hq => simp at hq
theorem k_cls {args : Array Value} {s : State} (htb : ∀ w ∈ TB, w.before args s = true) : ∃ D : va_G, ∀ (c : Nat) (q : vw_C), vwCl[c]? = some q → u_Kn s q.1 q.2.1 q.2.2 (D.1 c) (D.2 c) := by
  obtain ⟨c0, i0, k0⟩ := u_known (C := RX0) (T := TX0) (N := 7) (n := 7) htb inX0 (htb _ tb_103)
  obtain ⟨c1, i1, k1⟩ := u_known (C := RX1) (T := TX1) (N := 3) (n := 3) htb inX1 (htb _ tb_54)
  obtain ⟨c2, i2, k2⟩ := u_known (C := RX2) (T := TX2) (N := 3) (n := 3) htb inX2 (htb _ tb_152)
  obtain ⟨c3, i3, k3⟩ := u_known (C := RX3) (T := TX3) (N := 5) (n := 5) htb inX3 (htb _ tb_171)
  obtain ⟨c4, i4, k4⟩ := u_known (C := RX4) (T := TX4) (N := 4) (n := 4) htb inX4 (htb _ tb_133)
  obtain ⟨c5, i5, k5⟩ := u_known (C := RX5) (T := TX5) (N := 3) (n := 3) htb inX5 (htb _ tb_86)
  obtain ⟨c6, i6, k6⟩ := u_known (C := RX6) (T := TX6) (N := 10) (n := 10) htb inX6 (htb _ tb_46)
  refine ⟨(fun k => if k = 0 then c0 else if k = 1 then c1 else if k = 2 then c2 else if k = 3 then c3 else if k = 4 then c4 else if k = 5 then c5 else c6, fun k => if k = 0 then i0 else if k = 1 then i1 else if k = 2 then i2 else if k = 3 then i3 else if k = 4 then i4 else if k = 5 then i5 else i6), fun k q hq => ?_⟩
  match k, hq with
  | 0, hq => cases hq; exact k0
  | 1, hq => cases hq; exact k1
  | 2, hq => cases hq; exact k2
  | 3, hq => cases hq; exact k3
  | 4, hq => cases hq; exact k4
  | 5, hq => cases hq; exact k5
  | 6, hq => cases hq; exact k6
  | k + 7, hq => simp at hq
/-- a new object's state -/
def sta0 : Sta := (12, (fun _ => 1, fun _ _ => 0), [], (fun _ => none), (0, 0, fun _ => 0, fun _ => 0, fun _ => 0), (0, fun _ => 0))
theorem at_start {m : Mem} (hf : FoAt m 1 12 (fun _ => 1) (fun _ _ => 0)) (hz : ∀ j, (j = 76 ∨ j = 79 ∨ (291 ≤ j ∧ j < 295) ∨ j = 326) → m j = fun _ => 0) : At m sta0 := by
  have g : Gd 12 (fun _ _ => 0) := Gd.of (Fst.empty (w := fun _ => 0) ⟨by decide, by decide⟩ (fun _ _ => by decide))
  have z : ∀ j, (j = 76 ∨ j = 79 ∨ (291 ≤ j ∧ j < 295) ∨ j = 326) → ∀ k, m j k = nI 0 := fun j hj k => by rw [hz j hj]; rfl
  refine ⟨⟨fun _ => 1, hf, fun _ _ => rfl, fun _ _ => (by decide : 1 ≤ 99), g⟩, ⟨0, z 79 (by omega) 1, by decide, z 79 (by omega) 2, Nat.zero_le 14, fun j y hj => ?_⟩, fun k hk => ⟨fun _ => z 326 (by omega) k, fun y hy => (by cases hy)⟩, ⟨⟨z 291 (by omega) 3, (by decide : 0 < 6), z 291 (by omega) 4, (by decide : 0 ≤ 6), fun _ => rfl⟩, fun i hi => absurd hi (Nat.not_lt_zero i)⟩, ⟨z 76 (by omega) 0, (by decide : 0 ≤ 80), fun k hk => absurd hk (Nat.not_lt_zero k)⟩⟩
  have hj : ([] : List Fw)[j]? = some y := hj
  simp at hj
set_option maxRecDepth 100000 in
set_option maxHeartbeats 4000000 in
theorem law_begin {l : Launch} {nm : String} {q : E5} (hL : q.2.2.2.1 ≤ 260) {G : Gx} (hK : gK G = 0) : Xg l (M_law nm) AL ZL (EL q) G 0 0 (fun _ _ => 0) 0 [(0, .ref q.2.2.1)] [] := by
  have hCl : Cl G := fun j hj => absurd hj (by rw [hK]; omega)
  refine x_new (pc := 0) (ci := 6) (fs := [.null, .null, .null, .null, .null, .null, .null, .null, .null, .null]) hCl dL_law_0 rfl inX6 tyX6 tyX6_ok tb_45 tb_46 tb_31 (fun j hj => by rcases (by omega : j = 0 ∨ j = 1 ∨ j = 2 ∨ j = 3 ∨ j = 4 ∨ j = 5 ∨ j = 6 ∨ j = 7 ∨ j = 8 ∨ j = 9) with rfl | rfl | rfl | rfl | rfl | rfl | rfl | rfl | rfl | rfl <;> rfl) (show 0 + 1 ≤ room_1.cells from (Nat.le_of_ble_eq_true rfl)) (show 0 + 10 ≤ room_1.slots from (Nat.le_of_ble_eq_true rfl)) (fun q0 => ?_)
  have k1 : gK (gPut G q0 (.inr (6, [.null, .null, .null, .null, .null, .null, .null, .null, .null, .null]))) = 1 := congrArg (· + 1) hK
  have o1 : gO (gPut G q0 (.inr (6, [.null, .null, .null, .null, .null, .null, .null, .null, .null, .null]))) 0 = some (.inr (6, [.null, .null, .null, .null, .null, .null, .null, .null, .null, .null])) := if_pos hK.symm
  have a1 : gA (gPut G q0 (.inr (6, [.null, .null, .null, .null, .null, .null, .null, .null, .null, .null]))) 0 = q0 := if_pos hK.symm
  have c1 : Cl (gPut G q0 (.inr (6, [.null, .null, .null, .null, .null, .null, .null, .null, .null, .null]))) := hCl.put
  generalize gPut G q0 (.inr (6, [.null, .null, .null, .null, .null, .null, .null, .null, .null, .null])) = G1 at k1 o1 a1 c1 ⊢
  refine x_dup (pc := 3) dL_law_3 rfl ?_
  refine x_eq (st2 := [.ref (gA G1 0), .ref q0]) rfl rfl (by rw [a1]) ?_
  refine x_callI (pc := 4) 0 (i_X6 k1 o1 c1) ok_X6_init dL_law_4 tb_47 (rm_law nm ⟨⟨rfl, rfl⟩, ⟨Nat.le_of_ble_eq_true rfl, Nat.le_of_ble_eq_true rfl⟩, Nat.le_of_ble_eq_true rfl, Nat.le_of_ble_eq_true rfl⟩) (As := []) rfl rfl (Nat.le_of_ble_eq_true rfl) (fun v G2 m1 hv _ _ => ?_)
  obtain ⟨rfl, gr, hf, hz⟩ := hv
  refine x_eq (st2 := [.ref q0]) rfl rfl rfl ?_
  refine x_astore_n (pc := 7) (lv' := [(1, .ref q0), (0, .ref q.2.2.1)]) dL_law_7 rfl (show 1 < 7 by decide) rfl ?_
  refine x_new (pc := 8) (ci := 6) (fs := [.null, .null, .null, .null, .null, .null, .null, .null, .null, .null]) gr.2.2.2.2.2.1 dL_law_8 rfl inX6 tyX6 tyX6_ok tb_45 tb_46 tb_31 (fun j hj => by rcases (by omega : j = 0 ∨ j = 1 ∨ j = 2 ∨ j = 3 ∨ j = 4 ∨ j = 5 ∨ j = 6 ∨ j = 7 ∨ j = 8 ∨ j = 9) with rfl | rfl | rfl | rfl | rfl | rfl | rfl | rfl | rfl | rfl <;> rfl) (show 0 + 1 + 326 + 1 ≤ room_1.cells from (Nat.le_of_ble_eq_true rfl)) (show 0 + 10 + 3735 + 10 ≤ room_1.slots from (Nat.le_of_ble_eq_true rfl)) (fun q1 => ?_)
  have k2 : gK (gPut G2 q1 (.inr (6, [.null, .null, .null, .null, .null, .null, .null, .null, .null, .null]))) = 1 + 327 := (congrArg (· + 1) gr.2.1).trans (by decide)
  have o2 : gO (gPut G2 q1 (.inr (6, [.null, .null, .null, .null, .null, .null, .null, .null, .null, .null]))) 327 = some (.inr (6, [.null, .null, .null, .null, .null, .null, .null, .null, .null, .null])) := if_pos gr.2.1.symm
  have a2 : gA (gPut G2 q1 (.inr (6, [.null, .null, .null, .null, .null, .null, .null, .null, .null, .null]))) 327 = q1 := if_pos gr.2.1.symm
  have a3 : gA (gPut G2 q1 (.inr (6, [.null, .null, .null, .null, .null, .null, .null, .null, .null, .null]))) 0 = q0 := (if_neg (by rw [gr.2.1]; decide)).trans ((gr.2.2.1 0 (Nat.le_refl _)).trans a1)
  have n2 : ∀ j, j < 327 → gO (gPut G2 q1 (.inr (6, [.null, .null, .null, .null, .null, .null, .null, .null, .null, .null]))) j = none := fun j hj => (if_neg (by rw [gr.2.1]; omega)).trans (gr.2.2.2.2.1 j (Nat.zero_le _) hj)
  generalize gPut G2 q1 (.inr (6, [.null, .null, .null, .null, .null, .null, .null, .null, .null, .null])) = G3 at k2 o2 a2 a3 n2 ⊢
  have oR : gO (gR G3 1) 0 = some (.inr (6, [.null, .null, .null, .null, .null, .null, .null, .null, .null, .null])) := o2
  have cR : Cl (gR G3 1) := fun j hj hn => by
    have hj : j < 1 := hj
    have e : j = 0 := by omega
    subst e
    rw [oR] at hn
    cases hn
  refine x_dup (pc := 11) dL_law_11 rfl ?_
  refine x_eq (st2 := [.ref (gA G3 327), .ref q1]) rfl rfl (by rw [a2]) ?_
  have ct := fr_R (l := l) (kk := 1) k2 (by decide) n2 (i_X6 (l := l) (G := gR G3 1) (mem := sh m1) rfl oR cR) (fun o K m h => by rw [h.2.1.2.1]; exact Nat.le_refl 327)
  refine x_callI (pc := 12) 327 ct ok_X6_init dL_law_12 tb_47 (rm_law nm ⟨⟨rfl, rfl⟩, ⟨Nat.le_of_ble_eq_true rfl, Nat.le_of_ble_eq_true rfl⟩, Nat.le_of_ble_eq_true rfl, Nat.le_of_ble_eq_true rfl⟩) (As := []) rfl rfl (Nat.le_of_ble_eq_true rfl) (fun v G4 m2 hv _ _ => ?_)
  obtain ⟨K, mk, ⟨rfl, gk, hfk, hzk⟩, hCk, rfl, rfl⟩ := hv
  have aK : gA K 0 = q1 := (gk.2.2.1 0 (Nat.le_refl _)).trans a2
  have e4 : gA (jG G3 K) 327 = q1 := aK
  have e0 : gA (jG G3 K) 0 = q0 := a3
  refine x_eq (st2 := [.ref q1]) rfl rfl rfl ?_
  refine x_view (G' := (gD (jG G3 K), gC (jG G3 K), 654, gA (jG G3 K), fun _ => none)) (mem' := jM m1 mk) rfl rfl (show 654 = gK K + 327 by rw [gk.2.1]) (fun j hj => ⟨rfl, ?_⟩) ?_
  · have hj : j < gK K + 327 := hj
    rw [gk.2.1] at hj
    have hn : gO (jG G3 K) j = none := by
      by_cases c : j < 327
      · exact (if_pos c).trans (n2 j c)
      · exact (if_neg c).trans (gk.2.2.2.2.1 (j - 327) (Nat.zero_le _) (by omega))
    rw [cR_none hn]
    rfl
  have hM : M2 (gD (jG G3 K), gC (jG G3 K), 654, gA (jG G3 K), fun _ => none) := ⟨rfl, fun _ => rfl⟩
  have b0 : gA (gD (jG G3 K), gC (jG G3 K), 654, gA (jG G3 K), fun _ => none) 0 = q0 := e0
  have b1 : gA (gD (jG G3 K), gC (jG G3 K), 654, gA (jG G3 K), fun _ => none) 327 = q1 := e4
  have I : A2 (jM m1 mk) sta0 sta0 := by
    refine ⟨(at_start hf hz).lo (fun j hj => jM_lo hj), ?_⟩
    rw [sh_jM]
    exact at_start hfk hzk
  generalize ((gD (jG G3 K), gC (jG G3 K), 654, gA (jG G3 K), fun _ => none) : Gx) = G5 at hM b0 b1 ⊢
  subst b0
  subst b1
  refine x_astore_n (pc := 15) (lv' := [(2, .ref (gA G5 327)), (1, .ref (gA G5 0)), (0, .ref q.2.2.1)]) dL_law_15 rfl (show 2 < 7 by decide) rfl ?_
  refine x_widen (c2 := 600000) (s2 := 7302250) (Nat.le_of_ble_eq_true rfl) (Nat.le_of_ble_eq_true rfl) ?_
  refine x_sub (lv' := [(0, .ref q.2.2.1), (1, .ref (gA G5 0)), (2, .ref (gA G5 327))]) [2, 1, 0] rfl ?_
  refine x_aload_n (pc := 16) dL_law_16 2 rfl rfl ?_
  refine x_callSI (pc := 17) (two_R hM I (l_errors (Mn_R hM) I.2)) ok_L_errors dL_law_17 tb_228 (rm_law nm ⟨⟨rfl, rfl⟩, ⟨Nat.le_of_ble_eq_true rfl, Nat.le_of_ble_eq_true rfl⟩, Nat.le_of_ble_eq_true rfl, Nat.le_of_ble_eq_true rfl⟩) (As := [.ref (gA G5 327)]) rfl rfl (Nat.le_of_ble_eq_true rfl) (fun r m3 hr => ?_)
  obtain ⟨rfl, I⟩ := hr
  refine x_istore_n (pc := 20) (lv' := [(3, .int 1), (0, .ref q.2.2.1), (1, .ref (gA G5 0)), (2, .ref (gA G5 327))]) dL_law_20 rfl (show 3 < 7 by decide) rfl ?_
  refine x_iconst (pc := 21) (v := 0) dL_law_21 (by decide) ?_
  refine x_istore (pc := 22) (lv' := [(4, .int 0), (3, .int 1), (0, .ref q.2.2.1), (1, .ref (gA G5 0)), (2, .ref (gA G5 327))]) dL_law_22 (show 4 < 7 by decide) rfl ?_
  exact x_sub [2, 3, 4, 1, 0] rfl (law_loop hM hL m3 sta0 I)
/-- what the statement gives of the law's string and its script -/
theorem ex_start {b L : Nat} {xs : Nat → Int32} {s : State} (hts : ∀ w ∈ lw_tbl, w.before #[Value.ref b] s = true) (hgv : (Jvm.Cond.and given_1 narrow_1).before #[Value.ref b] s = true) (hX : va_X b L xs s s.heap) (hbl : b < s.heap.size) : ∃ sa sv, Ex (sa, sv, b, L, xs) (AL s) s s.heap := by
  have hs := flat_of_before _ hgv
  have hA : ∀ a : Nat, a < s.heap.size → ¬ AL s a := fun a ha => Nat.not_le.mpr ha
  obtain ⟨adK, adV, h1, h2⟩ := vk_Sof (args := #[Value.ref b]) (s := s) (N := 1) (tm := fun _ => Term.string RL 122) (len := [4]) (byt := [[97, 48, 70, 122]]) (A := AL s)
    (fun i hi => by rw [show i = 0 by omega]; decide)
    (fun i _ => hs (Cond.exactly (Term.string RL 122) "java/lang/String") (by decide +kernel))
    (fun i _ => hs (Cond.eq (.field (Term.string RL 122) "java/lang/String" "coder" "B") (.int 0)) (by decide +kernel))
    (fun i _ => hs (Cond.arrayOf (.field (Term.string RL 122) "java/lang/String" "value" "[B") .byte) (by decide +kernel))
    (fun i hi => by
      rw [show i = 0 by omega]
      exact hs (Cond.eq (.length (.field (Term.string RL 122) "java/lang/String" "value" "[B")) (.int 4)) (by decide +kernel))
    (fun i hi j hj => by
      have e : i = 0 := by omega
      subst e
      have hj : j < 4 := hj
      rcases (by omega : j = 0 ∨ j = 1 ∨ j = 2 ∨ j = 3) with rfl | rfl | rfl | rfl
      · exact hs (Cond.eq (.elem (.field (Term.string RL 122) "java/lang/String" "value" "[B") (.int 0)) (.int 97)) (by decide +kernel)
      · exact hs (Cond.eq (.elem (.field (Term.string RL 122) "java/lang/String" "value" "[B") (.int 1)) (.int 48)) (by decide +kernel)
      · exact hs (Cond.eq (.elem (.field (Term.string RL 122) "java/lang/String" "value" "[B") (.int 2)) (.int 70)) (by decide +kernel)
      · exact hs (Cond.eq (.elem (.field (Term.string RL 122) "java/lang/String" "value" "[B") (.int 3)) (.int 122)) (by decide +kernel))
    (fun i j hi hj ne => absurd (show i = j by omega) ne) hA
  have hR : vk_R RL 122 "a0Fz" (adK 0) s := vk_R.of (hts _ (List.mem_of_getElem? (i := 650) (by decide +kernel))) (h2 0 (by decide))
  have hZ : va_Z "java/lang/String" "COMPACT_STRINGS" "Z" (.int 1) (AL s) s s.heap := va_Zof (hts _ (List.mem_of_getElem? (i := 660) (by decide +kernel))) (hts _ (List.mem_of_getElem? (i := 41) (by decide +kernel))) (va_eqt (hs (Cond.eq (.static "java/lang/String" "COMPACT_STRINGS" "Z") (.int 1)) (by decide +kernel))) hA
  have hQ : va_Zq "jdk/internal/util/Preconditions" "SIOOBE_FORMATTER" "Ljava/util/function/BiFunction;" (AL s) s s.heap := va_Zqof (hts _ (List.mem_of_getElem? (i := 668) (by decide +kernel))) (hts _ (List.mem_of_getElem? (i := 43) (by decide +kernel))) (hs (Cond.isRef (.static "jdk/internal/util/Preconditions" "SIOOBE_FORMATTER" "Ljava/util/function/BiFunction;")) (by decide +kernel)) hA
  refine ⟨adK 0, adV 0, hR, ⟨fun i hi => ?_, fun i j hi hj _ => by omega⟩, hZ, hQ, hX, hbl, hA b hbl⟩
  have e : i = 0 := by omega
  subst e
  exact h1.1 0 (by decide)
set_option maxHeartbeats 4000000 in
/-- THE LAW, from its entry -/
theorem whole_start {p : Program} {e : Env} {s : State} {m : MethodId} {below : List Frame} {meth : Method} {c : Code} (l : Launch) (hflags : l.flags = flags0) {b L : Nat} {xs : Nat → Int32} (hL : L ≤ 260) (C0 : lw_At p s m meth c b L xs) : W p l e room_1 s m #[Value.ref b] below meth c s.heap [] 0 0 (lw_Z below #[Value.ref b] s) (entryFrame m ([Value.ref b] : List Value).toArray 7) := by
  obtain ⟨hx, hb, hr, hml, hown, hts, hX, hbl, hlocks, hgv⟩ := id C0
  have htb : ∀ w ∈ TB, w.before #[Value.ref b] s = true := fun w hw => hts w (TB_tbl hw)
  obtain ⟨D, hD⟩ := k_cls htb
  have hF : (Cond.arrayOver (.object RX1)).before #[Value.ref b] s = true := hts _ (List.mem_of_getElem? (i := 158) (by decide +kernel))
  have hR : (Cond.arrayOver (.array .int)).before #[Value.ref b] s = true := hts _ (List.mem_of_getElem? (i := 60) (by decide +kernel))
  obtain ⟨cs, hcs⟩ := k_arr (htb _ tb_84) (htb _ tb_131) hF hR
  obtain ⟨sa, sv, hE⟩ := ex_start hts hgv hX hbl
  have W0 := law_begin (l := l) (nm := meth.name) (q := (sa, sv, b, L, xs)) hL (G := (D, cs, 0, fun _ => 0, fun _ => none)) rfl
  have hl := lv_entry ([.ref b]) (n := 7) (Nat.le_of_ble_eq_true rfl)
  rw [lg_entry_eq]
  generalize (lg_sl ([.ref b]) ++ List.replicate (7 - (lg_sl ([.ref b])).length) Slot.unset).toArray = ls at hl ⊢
  have hl : lv_has ls 7 [(0, .ref b)] := hl
  refine W0 p e s m #[.ref b] below meth c s.heap [] ls ⟨hx, hb, hml, hown, htb, hr, hlocks, rfl, ⟨⟨hD, hcs⟩, va_AO.of hF, hR⟩, fun _ h => h, rfl, hE⟩ (fun k q h => ?_) ⟨fun i j p q h => ?_, fun k q h => ?_⟩ va_S.rf hl
  · exact absurd (wd_mem h).1 (Nat.not_lt_zero _)
  · exact absurd (wd_mem h).1 (Nat.not_lt_zero _)
  · exact absurd (wd_mem h).1 (Nat.not_lt_zero _)
