/-! THE LAW: its start -/
theorem aa_spec {args : Array Value} {s : State} (h : (Cond.arrayOver (.array .int)).before args s = true) : ∃ (comp c : ClassId) (k : Class), s.vm.classes[c]? = some k ∧ k.kind = .array comp (.array .int) ∧ s.vm.findClass ("[" ++ (FieldType.array .int).toString) = some c := by
  unfold Cond.before Cond.holds at h
  simp only [Cond.value, beq_iff_eq] at h
  cases hc : s.vm.findClass (FieldType.array .int).toString with
  | none => simp [hc] at h
  | some comp =>
    simp only [hc, Option.bind_some, Option.bind_eq_some_iff, Option.map_eq_some_iff] at h
    obtain ⟨c, hi, k, hk, hb⟩ := h
    cases hkind : k.kind with
    | array component ty =>
      rw [hkind] at hb
      simp at hb
      exact ⟨component, c, k, hk, by rw [hkind, hb.1], hb.2⟩
    | _ => rw [hkind] at hb; simp at hb
theorem k_arr {args : Array Value} {s : State} (hI : (Cond.arrayClass .int).before args s = true) (hZ : (Cond.arrayClass .boolean).before args s = true) (hF : (Cond.arrayOver (.object RX1)).before args s = true) (hR : (Cond.arrayOver (.array .int)).before args s = true) : ∃ cs : ClassId × ClassId × ClassId × ClassId, ∀ (k : Nat) (q : ClassId × FieldType), (T4 cs)[k]? = some q → ArrOfT s q.1 q.2 ∧ va_RA s q.1 q.2 := by
  obtain ⟨cI, kI, pI, i1, i2, i3⟩ := Cond.arrayClass_spec hI
  obtain ⟨cZ, kZ, pZ, z1, z2, z3⟩ := Cond.arrayClass_spec hZ
  obtain ⟨pF, cF, kF, g1, g2, g3, g4, g5⟩ := Cond.arrayOver_spec hF
  obtain ⟨pR, cR, kR, r1, r2, r3⟩ := aa_spec hR
  refine ⟨(cI, cZ, cF, cR), fun k q hq => ?_⟩
  match k, hq with
  | 0, hq => cases hq; exact ⟨fun n z => ⟨fun k h => (by cases h), kI, i2, pI, i3⟩, i1⟩
  | 1, hq => cases hq; exact ⟨fun n z => ⟨fun k h => (by cases h), kZ, z2, pZ, z3⟩, z1⟩
  | 2, hq => cases hq; exact ⟨fun n z => ⟨fun k h => (by cases h), kF, g3, pF, g4⟩, kF, pF, g3, g4, g1, g5⟩
  | 3, hq => cases hq; exact ⟨fun n z => ⟨fun k h => (by cases h), kR, r1, pR, r2⟩, r3⟩
  | k + 4, hq => simp at hq
theorem k_cls {args : Array Value} {s : State} (htb : ∀ w ∈ TB, w.before args s = true) : ∃ D : va_G, ∀ (c : Nat) (q : vw_C), vwCl[c]? = some q → u_Kn s q.1 q.2.1 q.2.2 (D.1 c) (D.2 c) := by
  obtain ⟨c0, i0, k0⟩ := u_known (C := RX0) (T := TX0) (N := 7) (n := 7) htb inX0 (htb _ tb_126)
  obtain ⟨c1, i1, k1⟩ := u_known (C := RX1) (T := TX1) (N := 3) (n := 3) htb inX1 (htb _ tb_77)
  obtain ⟨c2, i2, k2⟩ := u_known (C := RX2) (T := TX2) (N := 3) (n := 3) htb inX2 (htb _ tb_175)
  obtain ⟨c3, i3, k3⟩ := u_known (C := RX3) (T := TX3) (N := 5) (n := 5) htb inX3 (htb _ tb_194)
  obtain ⟨c4, i4, k4⟩ := u_known (C := RX4) (T := TX4) (N := 4) (n := 4) htb inX4 (htb _ tb_156)
  obtain ⟨c5, i5, k5⟩ := u_known (C := RX5) (T := TX5) (N := 3) (n := 3) htb inX5 (htb _ tb_109)
  obtain ⟨c6, i6, k6⟩ := u_known (C := RX6) (T := TX6) (N := 10) (n := 10) htb inX6 (htb _ tb_69)
  obtain ⟨c7, i7, k7⟩ := u_known (C := RX7) (T := TX7) (N := 24) (n := 24) htb inX7 (htb _ tb_706)
  refine ⟨(fun k => if k = 0 then c0 else if k = 1 then c1 else if k = 2 then c2 else if k = 3 then c3 else if k = 4 then c4 else if k = 5 then c5 else if k = 6 then c6 else c7, fun k => if k = 0 then i0 else if k = 1 then i1 else if k = 2 then i2 else if k = 3 then i3 else if k = 4 then i4 else if k = 5 then i5 else if k = 6 then i6 else i7), fun k q hq => ?_⟩
  match k, hq with
  | 0, hq => cases hq; exact k0
  | 1, hq => cases hq; exact k1
  | 2, hq => cases hq; exact k2
  | 3, hq => cases hq; exact k3
  | 4, hq => cases hq; exact k4
  | 5, hq => cases hq; exact k5
  | 6, hq => cases hq; exact k6
  | 7, hq => cases hq; exact k7
  | k + 8, hq => simp at hq
/-- the memory behind both constructors -/
theorem inv_start {m m1 : Mem} (hf : FoAt m1 1 12 (fun _ => 1) (fun _ _ => 0)) (hz : ∀ j, (j = 76 ∨ j = 79 ∨ (291 ≤ j ∧ j < 295) ∨ j = 326) → m1 j = fun _ => 0) (h1 : ∀ i, i < 327 → m i = m1 i) (h2 : ∀ i, 330 ≤ i → i < 343 → m i = fun _ => 0) (h4 : ∀ j, m 327 j = if j = 3 then 12 else 0) (h5 : ∀ v, m 329 v = if v < 12 then 1 else 0) : Inv m := by
  have z : ∀ j, (j = 76 ∨ j = 79 ∨ (291 ≤ j ∧ j < 295) ∨ j = 326) → ∀ k, m j k = nI 0 := fun j hj k => by rw [h1 j (by omega), hz j hj]; rfl
  have z7 : ∀ k, k ≠ 3 → m 327 k = nI 0 := fun k hk => by rw [h4, if_neg hk]; rfl
  have g : Gd 12 (fun _ _ => 0) := Gd.of (Fst.empty (w := fun _ => 0) ⟨by decide, by decide⟩ (fun _ _ => by decide))
  refine ⟨12, ⟨by rw [h4, if_pos rfl]; rfl, fun _ => 1, fun _ => 1, fun _ _ => 0, ⟨?_, fun v hv => ?_, fun u v hu hv => ?_⟩, ⟨fun v hv => ?_, fun u v hu hv => ?_⟩, fun v hv => ⟨rfl, show 1 ≤ 99 by decide⟩, g⟩, ⟨0, 0, ⟨z 79 (by omega) 1, z7 10 (by decide), by decide⟩, ⟨z 79 (by omega) 2, z7 9 (by decide), by decide⟩, fun j hj => absurd hj (Nat.not_lt_zero j)⟩, fun s hs => ⟨?_, Or.inl ?_, fun hn => absurd ?_ hn⟩, ⟨0, 0, fun _ => 0, fun _ => 0, fun _ => 0, ⟨z 291 (by omega) 3, by decide, z 291 (by omega) 4, by decide, fun _ => rfl, z7 14 (by decide)⟩, fun i hi => absurd hi (Nat.not_lt_zero i), fun i hi => absurd hi (Nat.not_lt_zero i)⟩, 0, fun _ => 0, ⟨z 76 (by omega) 0, by decide, fun k hk => absurd hk (Nat.not_lt_zero k)⟩, ⟨z7 1 (by decide), by decide, fun k hk => absurd hk (Nat.not_lt_zero k)⟩⟩
  · rw [h1 1 (by decide)]; exact hf.1
  · rw [h1 (1 + 1) (by decide)]; exact hf.2.1 v hv
  · rw [h1 (1 + 3 + u) (by omega)]; exact hf.2.2 u v hu hv
  · rw [h5, if_pos hv]; rfl
  · rw [h5, if_neg (by omega)]; rfl
  · rw [z 326 (by omega), h2 334 (by decide) (by decide)]; rfl
  · rw [h2 334 (by decide) (by decide)]
  · rw [h2 334 (by decide) (by decide)]
set_option maxRecDepth 100000 in
set_option maxHeartbeats 4000000 in
theorem law_begin {l : Launch} {nm : String} {b L : Nat} {xs : Nat → Int32} (hL : L ≤ 2048) {G : Gx} (hK : gK G = 0) : Xg l (M_law nm) AL ZL (EL b L xs) G 0 0 (fun _ _ => 0) 0 [(0, .ref b)] [] := by
  have hCl : Cl G := fun j hj => absurd hj (by rw [hK]; omega)
  refine x_new (pc := 0) (ci := 6) (fs := [.null, .null, .null, .null, .null, .null, .null, .null, .null, .null]) hCl dL_law_0 rfl inX6 tyX6 tyX6_ok tb_68 tb_69 tb_57 (fun j hj => by rcases (by omega : j = 0 ∨ j = 1 ∨ j = 2 ∨ j = 3 ∨ j = 4 ∨ j = 5 ∨ j = 6 ∨ j = 7 ∨ j = 8 ∨ j = 9) with rfl | rfl | rfl | rfl | rfl | rfl | rfl | rfl | rfl | rfl <;> rfl) (show 0 + 1 ≤ room_1.cells from (Nat.le_of_ble_eq_true rfl)) (show 0 + 10 ≤ room_1.slots from (Nat.le_of_ble_eq_true rfl)) (fun q0 => ?_)
  have k1 : gK (gPut G q0 (.inr (6, [.null, .null, .null, .null, .null, .null, .null, .null, .null, .null]))) = 1 := congrArg (· + 1) hK
  have o1 : gO (gPut G q0 (.inr (6, [.null, .null, .null, .null, .null, .null, .null, .null, .null, .null]))) 0 = some (.inr (6, [.null, .null, .null, .null, .null, .null, .null, .null, .null, .null])) := if_pos hK.symm
  have a1 : gA (gPut G q0 (.inr (6, [.null, .null, .null, .null, .null, .null, .null, .null, .null, .null]))) 0 = q0 := if_pos hK.symm
  have c1 : Cl (gPut G q0 (.inr (6, [.null, .null, .null, .null, .null, .null, .null, .null, .null, .null]))) := hCl.put
  generalize gPut G q0 (.inr (6, [.null, .null, .null, .null, .null, .null, .null, .null, .null, .null])) = G1 at k1 o1 a1 c1 ⊢
  refine x_dup (pc := 3) dL_law_3 rfl ?_
  refine x_eq (st2 := [.ref (gA G1 0), .ref q0]) rfl rfl (by rw [a1]) ?_
  refine x_callI (pc := 4) 0 (i_X6 k1 o1 c1) ok_X6_init dL_law_4 tb_70 (rm_law nm ⟨⟨rfl, rfl⟩, ⟨Nat.le_of_ble_eq_true rfl, Nat.le_of_ble_eq_true rfl⟩, Nat.le_of_ble_eq_true rfl, Nat.le_of_ble_eq_true rfl⟩) (As := []) rfl rfl (Nat.le_of_ble_eq_true rfl) (fun v G2 m1 hv _ _ => ?_)
  obtain ⟨rfl, gr, hf, hz⟩ := hv
  refine x_eq (st2 := [.ref q0]) rfl rfl rfl ?_
  refine x_astore_n (pc := 7) (lv' := [(1, .ref q0), (0, .ref b)]) dL_law_7 rfl (show 1 < 4 by decide) rfl ?_
  refine x_new (pc := 8) (ci := 7) (fs := [.null, .int 0, .int 0, .int 0, .int 0, .null, .null, .null, .null, .int 0, .int 0, .null, .null, .null, .int 0, .null, .null, .null, .null, .null, .null, .null, .int 0, .int 0]) gr.2.2.2.2.2.1 dL_law_8 rfl inX7 tyX7 tyX7_ok tb_705 tb_706 tb_66 (fun j hj => by rcases (by omega : j = 0 ∨ j = 1 ∨ j = 2 ∨ j = 3 ∨ j = 4 ∨ j = 5 ∨ j = 6 ∨ j = 7 ∨ j = 8 ∨ j = 9 ∨ j = 10 ∨ j = 11 ∨ j = 12 ∨ j = 13 ∨ j = 14 ∨ j = 15 ∨ j = 16 ∨ j = 17 ∨ j = 18 ∨ j = 19 ∨ j = 20 ∨ j = 21 ∨ j = 22 ∨ j = 23) with rfl | rfl | rfl | rfl | rfl | rfl | rfl | rfl | rfl | rfl | rfl | rfl | rfl | rfl | rfl | rfl | rfl | rfl | rfl | rfl | rfl | rfl | rfl | rfl <;> rfl) (show 0 + 1 + 326 + 1 ≤ room_1.cells from (Nat.le_of_ble_eq_true rfl)) (show 0 + 10 + 3735 + 24 ≤ room_1.slots from (Nat.le_of_ble_eq_true rfl)) (fun q1 => ?_)
  have k2 : gK (gPut G2 q1 (.inr (7, [.null, .int 0, .int 0, .int 0, .int 0, .null, .null, .null, .null, .int 0, .int 0, .null, .null, .null, .int 0, .null, .null, .null, .null, .null, .null, .null, .int 0, .int 0]))) = 328 := congrArg (· + 1) gr.2.1
  have o2 : gO (gPut G2 q1 (.inr (7, [.null, .int 0, .int 0, .int 0, .int 0, .null, .null, .null, .null, .int 0, .int 0, .null, .null, .null, .int 0, .null, .null, .null, .null, .null, .null, .null, .int 0, .int 0]))) 327 = some (.inr (7, [.null, .int 0, .int 0, .int 0, .int 0, .null, .null, .null, .null, .int 0, .int 0, .null, .null, .null, .int 0, .null, .null, .null, .null, .null, .null, .null, .int 0, .int 0])) := if_pos gr.2.1.symm
  have a2 : gA (gPut G2 q1 (.inr (7, [.null, .int 0, .int 0, .int 0, .int 0, .null, .null, .null, .null, .int 0, .int 0, .null, .null, .null, .int 0, .null, .null, .null, .null, .null, .null, .null, .int 0, .int 0]))) 327 = q1 := if_pos gr.2.1.symm
  have a3 : gA (gPut G2 q1 (.inr (7, [.null, .int 0, .int 0, .int 0, .int 0, .null, .null, .null, .null, .int 0, .int 0, .null, .null, .null, .int 0, .null, .null, .null, .null, .null, .null, .null, .int 0, .int 0]))) 0 = q0 := (if_neg (by rw [gr.2.1]; decide)).trans ((gr.2.2.1 0 (Nat.le_refl _)).trans a1)
  have c2 : Cl (gPut G2 q1 (.inr (7, [.null, .int 0, .int 0, .int 0, .int 0, .null, .null, .null, .null, .int 0, .int 0, .null, .null, .null, .int 0, .null, .null, .null, .null, .null, .null, .null, .int 0, .int 0]))) := gr.2.2.2.2.2.1.put
  have n2 : ∀ j, j < 327 → gO (gPut G2 q1 (.inr (7, [.null, .int 0, .int 0, .int 0, .int 0, .null, .null, .null, .null, .int 0, .int 0, .null, .null, .null, .int 0, .null, .null, .null, .null, .null, .null, .null, .int 0, .int 0]))) j = none := fun j hj => (if_neg (by rw [gr.2.1]; omega)).trans (gr.2.2.2.2.1 j (Nat.zero_le _) hj)
  generalize gPut G2 q1 (.inr (7, [.null, .int 0, .int 0, .int 0, .int 0, .null, .null, .null, .null, .int 0, .int 0, .null, .null, .null, .int 0, .null, .null, .null, .null, .null, .null, .null, .int 0, .int 0])) = G3 at k2 o2 a2 a3 c2 n2 ⊢
  refine x_dup (pc := 11) dL_law_11 rfl ?_
  refine x_eq (st2 := [.ref (gA G3 327), .ref q1]) rfl rfl (by rw [a2]) ?_
  refine x_callI (pc := 12) 327 (i_X7 k2 o2 c2 n2) ok_X7_init dL_law_12 tb_707 (rm_law nm ⟨⟨rfl, rfl⟩, ⟨Nat.le_of_ble_eq_true rfl, Nat.le_of_ble_eq_true rfl⟩, Nat.le_of_ble_eq_true rfl, Nat.le_of_ble_eq_true rfl⟩) (As := []) rfl rfl (Nat.le_of_ble_eq_true rfl) (fun v G4 m2 hv _ _ => ?_)
  obtain ⟨rfl, -, hM, ha, hm1, hm2, -, hm4, hm5⟩ := hv
  refine x_eq (st2 := [.ref (gA G4 327)]) rfl rfl (by rw [ha 327 (Nat.le_refl _), a2]; rfl) ?_
  refine x_astore_n (pc := 15) (lv' := [(2, .ref (gA G4 327)), (1, .ref q0), (0, .ref b)]) dL_law_15 rfl (show 2 < 4 by decide) rfl ?_
  have e0 : q0 = gA G4 0 := ((ha 0 (by decide)).trans a3).symm
  rw [e0]
  refine x_iconst (pc := 16) (v := 0) dL_law_16 (by decide) ?_
  refine x_istore_n (pc := 17) (lv' := lvL b 0 G4) dL_law_17 rfl (show 3 < 4 by decide) rfl ?_
  refine x_widen (c2 := 600000) (s2 := 7302250) (Nat.le_of_ble_eq_true rfl) (Nat.le_of_ble_eq_true rfl) ?_
  exact law_loop hL hM (L + 4) 0 m2 (by omega) (by omega) (inv_start hf hz hm1 hm2 hm4 hm5)
set_option maxHeartbeats 4000000 in
/-- THE LAW, from its entry -/
theorem whole_start {p : Program} {e : Env} {s : State} {m : MethodId} {below : List Frame} {meth : Method} {c : Code} (l : Launch) (hflags : l.flags = flags0) {b L : Nat} {xs : Nat → Int32} (hL : L ≤ 2048) (C0 : lw_At p s m meth c b L xs) : W p l e room_1 s m #[Value.ref b] below meth c s.heap [] 0 0 (lw_Z below #[Value.ref b] s) (entryFrame m ([Value.ref b] : List Value).toArray 4) := by
  obtain ⟨hx, hb, hr, hml, hown, hts, hX, hbl, hlocks, hgv⟩ := id C0
  have htb : ∀ w ∈ TB, w.before #[Value.ref b] s = true := fun w hw => hts w (TB_tbl hw)
  obtain ⟨D, hD⟩ := k_cls htb
  have hF : (Cond.arrayOver (.object RX1)).before #[Value.ref b] s = true := hts _ (List.mem_of_getElem? (i := 181) (by decide +kernel))
  have hR : (Cond.arrayOver (.array .int)).before #[Value.ref b] s = true := hts _ (List.mem_of_getElem? (i := 83) (by decide +kernel))
  obtain ⟨cs, hcs⟩ := k_arr (htb _ tb_107) (htb _ tb_154) hF hR
  have W0 := law_begin (l := l) (nm := meth.name) (b := b) (xs := xs) hL (G := (D, cs, 0, fun _ => 0, fun _ => none)) rfl
  have hl := lv_entry ([.ref b]) (n := 4) (Nat.le_of_ble_eq_true rfl)
  rw [lg_entry_eq]
  generalize (lg_sl ([.ref b]) ++ List.replicate (4 - (lg_sl ([.ref b])).length) Slot.unset).toArray = ls at hl ⊢
  have hl : lv_has ls 4 [(0, .ref b)] := hl
  refine W0 p e s m #[.ref b] below meth c s.heap [] ls ⟨hx, hb, hml, hown, htb, hr, hlocks, rfl, ⟨⟨hD, hcs⟩, va_AO.of hF, hR⟩, fun _ h => h, rfl, hX, hbl⟩ (fun k q h => ?_) ⟨fun i j p q h => ?_, fun k q h => ?_⟩ va_S.rf hl
  · exact absurd (wd_mem h).1 (Nat.not_lt_zero _)
  · exact absurd (wd_mem h).1 (Nat.not_lt_zero _)
  · exact absurd (wd_mem h).1 (Nat.not_lt_zero _)
