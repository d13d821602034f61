/-! Contraction: the steps -/
section KX
variable {l : Launch} {G : Gx} {mem : Mem} {n k : Nat} {S : Cs}
theorem rkj_same {i : Nat} : ∀ {j : Nat}, i ≤ j → (∀ x, i ≤ x → x < j → ¬ mk S x = true) → rkj k S j = rkj k S i
  | 0, h, _ => by rw [show i = 0 by omega]
  | j + 1, h, q => by
    by_cases e : i = j + 1
    · rw [e]
    · show (if mk S j = true then _ else _) = _
      rw [if_neg (q j (by omega) (by omega))]
      exact rkj_same (by omega) (fun x h1 h2 => q x h1 (by omega))
theorem bp_no {v : Nat} (h : ¬ S.1 v = true) : bp k v S = S := if_neg (fun q => h q.1)
theorem bp_no2 {v : Nat} (h : ¬ cn (nz S.2.1 v) 12 = 2) : bp k v S = S := if_neg (fun q => h q.2.1)
theorem cpj_P (x : Nat) : ∀ j, (cpj k S j).1 x = true → S.1 x = true
  | 0, h => h
  | j + 1, h => by
    have h2 : (bp k j (cpj k S j)).1 x = true := h
    unfold bp at h2
    split at h2
    · exact cpj_P x j (pm_t.mp h2).1
    · exact cpj_P x j h2
theorem cpj_same {i : Nat} : ∀ {j : Nat}, i ≤ j → (∀ x, i ≤ x → ¬ S.1 x = true) → cpj k S j = cpj k S i
  | 0, h, _ => by rw [show i = 0 by omega]
  | j + 1, h, q => by
    by_cases e : i = j + 1
    · rw [e]
    · show bp k j (cpj k S j) = _
      rw [bp_no (fun z => q j (by omega) (cpj_P j j z))]
      exact cpj_same (by omega) q
theorem c_ctBypass (hG : Mn G) (h : CAt mem n S) (t : Tc n S) (hk : mem 59 2 = nI k) {v : Nat} (hv : S.1 v = true) (h2 : cn (nz S.2.1 v) 12 = 2) : CtV l M_X0_bypass G [.ref (gA G 59), .int (nI v)] mem (fun m => CAt m n (bp k v S) ∧ m 59 2 = nI k ∧ Out 59 76 mem m) := by
  have hn := t.2.2.2
  have vn := t.2.2.1 v hv
  have tw := nb_two h2
  have eb : ∀ a b, a = nb S.2.1 v 0 → b = nb S.2.1 v (nb S.2.1 v 0 + 1) → bp k v S = if S.2.1 v a = 1 ∧ S.2.1 v b = 1 then put2 a b (rmv k v S) else S := by
    rintro a b rfl rfl
    unfold bp
    by_cases q : S.2.1 v (nb S.2.1 v 0) = 1 ∧ S.2.1 v (nb S.2.1 v (nb S.2.1 v 0 + 1)) = 1
    · rw [if_pos q, if_pos ⟨hv, h2, q⟩]
    · rw [if_neg q, if_neg (fun z => q z.2.2)]
  replace eb := eb _ _ rfl rfl
  generalize nb S.2.1 v (nb S.2.1 v 0 + 1) = b at tw eb
  generalize nb S.2.1 v 0 = a at tw eb
  obtain ⟨n1, n2, n3, n4, n5, n6, n7⟩ := tw
  have pa := (t.e n3).2
  have pb := (t.e n4).2
  have an := t.2.2.1 a pa
  have bn := t.2.2.1 b pb
  have la := t.2.1 v a
  have lb := t.2.1 v b
  have av : a ≠ v ∧ b ≠ v := by
    obtain ⟨⟨W, D, hT, hW⟩, -⟩ := t
    exact ⟨fun e => by rw [e, hW, TR.wi hT] at n3; omega, fun e => by rw [e, hW, TR.wi hT] at n4; omega⟩
  refine CtV_of (by decide) (Nat.le_of_ble_eq_true rfl) rfl (t_X0_bypass_0 hG _ mem ?_)
  refine ⟨_, c_ctNext hG h t (i := 0) (u := a) rfl hv (Nat.zero_le _) an n3 (fun x _ q => n5 x q), ?_⟩
  rintro r m ⟨rfl, rfl⟩
  refine ⟨_, c_ctNext hG h t (i := a + 1) (u := b) (nI_1 a) hv n1 bn n4 (fun x q1 q2 => n6 x q1 q2), ?_⟩
  rintro r m ⟨rfl, rfl⟩
  refine ⟨_, c_ctVertex hG h.1 hn (by omega), ?_⟩
  rintro r m ⟨rfl, rfl⟩
  rw [if_pos an]
  refine ⟨fun z => absurd z (by decide), fun _ => ⟨_, c_ctVertex hG h.1 hn (by omega), ?_⟩⟩
  rintro r m ⟨rfl, rfl⟩
  rw [if_pos bn]
  have vin := i_in (k := v) (n := 12) (by omega) (by decide)
  have ain := i_in (k := a) (n := 12) (by omega) (by decide)
  have bin := i_in (k := b) (n := 12) (by omega) (by decide)
  rw [i_cl (by omega), i_cl (by omega), i_cl (by omega), h.2.2.2.2 v vn hv a an, h.2.2.2.2 v vn hv b bn]
  have two : ∀ x, x ≤ 2 → (nI x = 2 ↔ x = 2) := fun x hx => i_neq (b := 2) (by omega) (by decide)
  refine ⟨fun _ => ⟨vin, ain, fun z => ?_, fun z => ⟨vin, bin, fun z2 => ⟨_, c_ctRemove hG h hn hk hv vn, ?_⟩, fun z2 => ?_⟩⟩, fun z => absurd z (by decide)⟩
  · have := (two _ la).mp z
    rw [if_neg (by omega)] at eb
    rw [eb]; exact ⟨h, hk, Out.rf⟩
  · rintro m ⟨g1, g2, g3, g4⟩
    have z' : ¬ S.2.1 v a = 2 := fun q => z ((two _ la).mpr q)
    have z2' : ¬ S.2.1 v b = 2 := fun q => z2 ((two _ lb).mpr q)
    rw [if_pos (by omega)] at eb
    rw [eb]
    refine ⟨ain, bin, bin, ain, ⟨?_, ?_, fun x hx => ?_, fun x hx => ?_, fun x hx px y hy => ?_⟩, ?_, fun i hi => ?_⟩
    · rw [wr_n (by omega), wr_n (by omega)]; exact g1.1
    · rw [wr_n (by omega), wr_n (by omega)]; exact g1.2.1
    · rw [wr_n (by omega), wr_n (by omega)]; exact g1.2.2.1 x hx
    · rw [wr_n (by omega), wr_n (by omega)]; exact g1.2.2.2.1 x hx
    · rw [wr_at, wr_at]
      show _ = nI (updE (rmv k v S).2.1 a b 2 x y)
      unfold updE
      by_cases q1 : 64 + x = 64 + b ∧ y = a
      · rw [if_pos q1, if_pos (by omega)]; rfl
      · rw [if_neg q1]
        by_cases q2 : 64 + x = 64 + a ∧ y = b
        · rw [if_pos q2, if_pos (by omega)]; rfl
        · rw [if_neg q2, if_neg (by omega)]
          exact g1.2.2.2.2 x hx px y hy
    · rw [wr_n (by omega), wr_n (by omega)]; exact g2
    · rw [wr_n (by omega), wr_n (by omega)]; exact g4 i hi
  · have := (two _ lb).mp z2
    rw [if_neg (by omega)] at eb
    rw [eb]; exact ⟨h, hk, Out.rf⟩
theorem c_ctCompress (hG : Mn G) (h : CAt mem n S) (t : Tc n S) (hk : mem 59 2 = nI k) : CtV l M_X0_compress G [.ref (gA G 59)] mem (fun m => CAt m n (cpj k S 12) ∧ m 59 2 = nI k ∧ Out 59 76 mem m) := by
  have hn := t.2.2.2
  refine CtV_of (by decide) (Nat.le_of_ble_eq_true rfl) rfl (t_X0_compress_0 hG mem ?_)
  refine ⟨_, c_ctOld hG h t, ?_⟩
  rintro m1 ⟨g1, g2, g3⟩
  refine up_loop (P := fun v => ∀ m : Mem, CAt m n (cpj k S v) → m 59 2 = nI k → Out 59 76 mem m → XV l M_X0_compress G _ m 6 [(0, .ref (gA G 59)), (1, .int (nI v))] []) (n := n) (Nat.zero_le _) ?_ ?_ m1 g1 (g2.trans hk) g3
  · intro m i1 i2 i3
    refine t_X0_compress_6 hG _ m ?_
    rw [i1.1]
    refine ⟨fun _ => ?_, fun z => absurd ((i_nle (by omega) (by omega)).mpr (Nat.le_refl _)) z⟩
    rw [cpj_same (i := n) hn (fun x hx q => by have := t.2.2.1 x q; omega)]
    exact ⟨i1, i2, i3⟩
  · intro v _ hv ih m i1 i2 i3
    refine t_X0_compress_6 hG _ m ?_
    have tv := (t.cp1 (k := k) v).1
    rw [i1.1, i_cl (by omega), nI_1, i1.2.2.1 v (by omega)]
    refine ⟨fun z => absurd ((i_nle (by omega) (by omega)).mp z) (by omega), fun _ => ⟨i_in (by omega) (by decide), fun z => ?_, fun z => ?_⟩⟩
    · have e : cpj k S (v + 1) = cpj k S v := bp_no (bI_0.mp z)
      exact ih m (by rw [e]; exact i1) i2 i3
    · have pv : (cpj k S v).1 v = true := Decidable.byContradiction fun q => z (bI_0.mpr q)
      refine ⟨_, c_ctDegree hG i1 tv pv, ?_⟩
      rintro r m ⟨rfl, rfl⟩
      have cu := cn_up (nz (cpj k S v).2.1 v) 12
      refine ⟨fun z2 => ?_, fun z2 => ?_⟩
      · have e : cpj k S (v + 1) = cpj k S v := bp_no2 (fun q => z2 (by rw [q]; rfl))
        exact ih m (by rw [e]; exact i1) i2 i3
      · have e2 := (i_neq (b := 2) (by omega) (by decide)).mp z2
        refine ⟨_, c_ctBypass hG i1 tv i2 pv e2, ?_⟩
        rintro m2 ⟨k1, k2, k3⟩
        exact ih m2 k1 k2 (i3.tr k3)
theorem c_ctRake (hG : Mn G) (h : CAt mem n S) (t : Tc n S) (hk : mem 59 2 = nI k) : CtV l M_X0_rake G [.ref (gA G 59)] mem (fun m => CAt m n (rkj k S 12) ∧ m 59 2 = nI k ∧ Out 59 76 mem m) := by
  have hn := t.2.2.2
  have cu := cn_up S.1 12
  have toN : rkj k S 12 = rkj k S n := rkj_same hn (fun x h1 _ q => by have := t.2.2.1 x (mk_P q); omega)
  refine CtV_of (by decide) (Nat.le_of_ble_eq_true rfl) rfl (t_X0_rake_0 hG mem ?_)
  rw [h.2.1]
  refine ⟨fun z => ?_, fun z => ?_⟩
  · have ne : cn S.1 12 ≠ 2 := fun q => z (by rw [q]; rfl)
    refine up_loop (P := fun v => ∀ m : Mem, (∀ a, a ≠ 61 → m a = mem a) → (∀ x, x < v → m 61 x = bI (mk S x)) → XV l M_X0_rake G _ m 15 [(0, .ref (gA G 59)), (1, .int (nI v))] []) (n := n) (Nat.zero_le _) ?_ ?_ mem (fun _ _ => rfl) (fun x hx => absurd hx (Nat.not_lt_zero x))
    · intro m i1 i2
      refine t_X0_rake_15 hG _ m ?_
      have b0 : m 59 0 = nI n := by rw [i1 59 (by omega)]; exact h.1
      rw [b0]
      refine ⟨fun _ => ?_, fun z => absurd ((i_nle (by omega) (by omega)).mpr (Nat.le_refl _)) z⟩
      have h1 : CAt m n S := ⟨b0, by rw [i1 59 (by omega)]; exact h.2.1, by rw [i1 60 (by omega)]; exact h.2.2.1, by rw [i1 62 (by omega)]; exact h.2.2.2.1, fun x hx px y hy => by rw [i1 _ (by omega)]; exact h.2.2.2.2 x hx px y hy⟩
      refine up_loop (P := fun v => ∀ m2 : Mem, CAt m2 n (rkj k S v) → m2 59 2 = nI k → m2 61 = m 61 → Out 59 76 mem m2 → XV l M_X0_rake G _ m2 60 [(0, .ref (gA G 59)), (1, .int (nI v))] []) (n := n) (Nat.zero_le _) ?_ ?_ m h1 (by rw [i1 59 (by omega)]; exact hk) rfl (fun a ha => i1 a (by omega))
      · intro m2 j1 j2 j3 j4
        refine t_X0_rake_60 hG _ m2 ?_
        rw [j1.1]
        exact ⟨fun _ => ⟨by rw [toN]; exact j1, j2, j4⟩, fun z => absurd ((i_nle (by omega) (by omega)).mpr (Nat.le_refl _)) z⟩
      · intro v _ hv ih m2 j1 j2 j3 j4
        refine t_X0_rake_60 hG _ m2 ?_
        rw [j1.1, i_cl (by omega), nI_1, j3, i2 v hv]
        refine ⟨fun z => absurd ((i_nle (by omega) (by omega)).mp z) (by omega), fun _ => ⟨i_in (by omega) (by decide), fun z2 => ?_, fun z2 => ?_⟩⟩
        · have e : rkj k S (v + 1) = rkj k S v := if_neg (bI_0.mp z2)
          exact ih m2 (by rw [e]; exact j1) j2 j3 j4
        · have pm1 : mk S v = true := Decidable.byContradiction fun q => z2 (bI_0.mpr q)
          have e : rkj k S (v + 1) = rmv k v (rkj k S v) := if_pos pm1
          have pv : (rkj k S v).1 v = true := (rkj_1 v v).mpr ⟨mk_P pm1, fun q => Nat.lt_irrefl _ q.1⟩
          refine ⟨_, c_ctRemove hG j1 hn j2 pv hv, ?_⟩
          rintro m3 ⟨k1, k2, k3, k4⟩
          exact ih m3 (by rw [e]; exact k1) k2 (k3.trans j3) (j4.tr k4)
    · intro v _ hv ih m i1 i2
      refine t_X0_rake_15 hG _ m ?_
      have b0 : m 59 0 = nI n := by rw [i1 59 (by omega)]; exact h.1
      have h1 : CAt m n S := ⟨b0, by rw [i1 59 (by omega)]; exact h.2.1, by rw [i1 60 (by omega)]; exact h.2.2.1, by rw [i1 62 (by omega)]; exact h.2.2.2.1, fun x hx px y hy => by rw [i1 _ (by omega)]; exact h.2.2.2.2 x hx px y hy⟩
      have vin := i_in (k := v) (n := 12) (by omega) (by decide)
      have go : ∀ r : Int32, r = bI (mk S v) → XV l M_X0_rake G (fun m => CAt m n (rkj k S 12) ∧ m 59 2 = nI k ∧ Out 59 76 mem m) (wr m 61 v r) 15 [(0, .ref (gA G 59)), (1, .int (nI (v + 1)))] [] := fun r e => by
        refine ih _ (fun a ha => by rw [wr_n ha]; exact i1 a ha) (fun x hx => ?_)
        rw [wr_at]
        by_cases q : x = v
        · rw [if_pos ⟨rfl, q⟩, e, q]
        · rw [if_neg (by omega)]; exact i2 x (by omega)
      rw [b0, i_cl (by omega), nI_1, h1.2.2.1 v (by omega)]
      refine ⟨fun z => absurd ((i_nle (by omega) (by omega)).mp z) (by omega), fun _ => ⟨vin, fun z2 => ⟨vin, go 0 ?_⟩, fun z2 => ?_⟩⟩
      · exact (bI_0.mpr (fun q => bI_0.mp z2 (mk_P q))).symm
      · have pv : S.1 v = true := Decidable.byContradiction fun q => z2 (bI_0.mpr q)
        refine ⟨_, c_ctDegree hG h1 t pv, ?_⟩
        rintro r m ⟨rfl, rfl⟩
        have cu2 := cn_up (nz S.2.1 v) 12
        refine ⟨fun z3 => ⟨vin, go 0 ?_⟩, fun z3 => ⟨vin, go 1 ?_⟩⟩
        · exact (bI_0.mpr (fun q => z3 (by rw [((mk_3 ne).mp q).2]; rfl))).symm
        · have e := (i_neq (b := 1) (by omega) (by decide)).mp z3
          have e2 : mk S v = true := (mk_3 ne).mpr ⟨pv, e⟩
          rw [e2]; rfl
  · have e2 : cn S.1 12 = 2 := (i_neq (b := 2) (by omega) (by decide)).mp z
    obtain ⟨g, g1, g2, g3⟩ := far_ex S.1 (fun x => x) 12 (by omega)
    have gn := t.2.2.1 g g2
    have mg : ∀ x, mk S x = true ↔ x = g := fun x => by
      rw [mk_2 e2]
      refine ⟨fun q => ?_, fun q => ?_⟩
      · have a1 := g3 x (t.lt q.1) q.1
        have a2 := q.2 g g1
        by_cases e : x < g
        · exact absurd g2 (a2 e)
        · omega
      · rw [q]
        exact ⟨g2, fun u u1 u2 u3 => by have := g3 u u1 u3; omega⟩
    have er : rkj k S 12 = rmv k g S := by
      rw [rkj_same (i := g + 1) (by omega) (fun x h1 h2 q => by have := (mg x).mp q; omega)]
      show (if mk S g = true then rmv k g (rkj k S g) else _) = _
      rw [if_pos ((mg g).mpr rfl), rkj_same (i := 0) (Nat.zero_le _) (fun x h1 h2 q => by have := (mg x).mp q; omega)]
      rfl
    have cg : CtV l M_X0_removeGreatest G [.ref (gA G 59)] mem (fun m => CAt m n (rkj k S 12) ∧ m 59 2 = nI k ∧ Out 59 76 mem m) := by
      refine CtV_of (by decide) (Nat.le_of_ble_eq_true rfl) rfl (t_X0_removeGreatest_0 hG mem ?_)
      rw [h.1, show (1 : Int32) = nI 1 from rfl, pk_sub (by omega)]
      have key : ∀ d, g + d < n → XV l M_X0_removeGreatest G (fun m => CAt m n (rkj k S 12) ∧ m 59 2 = nI k ∧ Out 59 76 mem m) mem 7 [(0, .ref (gA G 59)), (1, .int (nI (g + d)))] [] := by
        intro d
        induction d with
        | zero =>
          intro hd
          refine t_X0_removeGreatest_7 hG _ mem ?_
          rw [Nat.add_zero, i_cl (by omega), h.2.2.1 g g1]
          refine ⟨fun z => ?_, fun _ => ⟨i_in (by omega) (by decide), fun z => absurd g2 (bI_0.mp z), fun _ => ⟨_, c_ctRemove hG h hn hk g2 gn, ?_⟩⟩⟩
          · rw [i_lt, i_nI (by omega), i_0] at z; omega
          · rintro m ⟨k1, k2, k3, k4⟩
            rw [er]; exact ⟨k1, k2, k4⟩
        | succ d ih =>
          intro hd
          refine t_X0_removeGreatest_7 hG _ mem ?_
          have np : ¬ S.1 (g + (d + 1)) = true := fun q => by have := g3 _ (by omega) q; omega
          rw [i_cl (by omega), h.2.2.1 _ (by omega)]
          refine ⟨fun z => ?_, fun _ => ⟨i_in (by omega) (by decide), fun z => ?_, fun z => absurd (bI_0.mpr np) z⟩⟩
          · rw [i_lt, i_nI (by omega), i_0] at z; omega
          · have e : nI (g + (d + 1)) + (-1) = nI (g + d) := by
              rw [i_eq, i_add (by rw [i_nI (by omega), i_m1]; omega) (by rw [i_nI (by omega), i_m1]; omega), i_nI (by omega), i_nI (by omega), i_m1]
              omega
            rw [e]
            exact ih (by omega)
      have := key (n - 1 - g) (by omega)
      rw [show g + (n - 1 - g) = n - 1 by omega] at this
      exact this
    exact ⟨_, cg, fun m q => q⟩
theorem c_ctLast (hG : Mn G) (h : CAt mem n S) (hn : n ≤ 12) {u : Nat} (hu : u < n) (h1 : S.1 u = true) (h2 : ∀ x, x < u → ¬ S.1 x = true) : CtI l M_X0_lastVertex G [.ref (gA G 59)] mem (fun r m => m = mem ∧ r = nI u) := by
  refine CtI_of (by decide) (Nat.le_of_ble_eq_true rfl) rfl (t_X0_lastVertex_0 hG mem ?_)
  refine up_loop (P := fun v => XI l M_X0_lastVertex G _ mem 2 [(0, .ref (gA G 59)), (1, .int (nI v))] []) (n := u) (Nat.zero_le _) ?_ ?_
  · refine t_X0_lastVertex_2 hG _ mem ?_
    rw [h.1, i_cl (by omega), h.2.2.1 u (by omega)]
    exact ⟨fun z => absurd ((i_nle (by omega) (by omega)).mp z) (by omega), fun _ => ⟨i_in (by omega) (by decide), fun z => absurd h1 (bI_0.mp z), fun _ => ⟨rfl, rfl⟩⟩⟩
  · intro v _ hv ih
    refine t_X0_lastVertex_2 hG _ mem ?_
    rw [h.1, i_cl (by omega), h.2.2.1 v (by omega), nI_1]
    exact ⟨fun z => absurd ((i_nle (by omega) (by omega)).mp z) (by omega), fun _ => ⟨i_in (by omega) (by decide), fun _ => ih, fun z => absurd (bI_0.mpr (h2 v hv)) z⟩⟩
theorem c_ctRound (hG : Mn G) (h : CAt mem n S) (hn : n ≤ 12) {u : Nat} (hu : u < n) : CtI l M_X0_roundOf G [.ref (gA G 59), .int (nI u)] mem (fun r m => m = mem ∧ r = S.2.2 u) := by
  refine CtI_of (by decide) (Nat.le_of_ble_eq_true rfl) rfl (t_X0_roundOf_0 hG _ mem ?_)
  refine ⟨_, c_ctVertex hG h.1 hn (by omega), ?_⟩
  rintro r m ⟨rfl, rfl⟩
  rw [if_pos hu, i_cl (by omega)]
  exact ⟨fun z => absurd z (by decide), fun _ => ⟨i_in (by omega) (by decide), rfl, h.2.2.2.1 u (by omega)⟩⟩
theorem c_ctRounds (hG : Mn G) : CtI l M_X0_roundCount G [.ref (gA G 59)] mem (fun r m => m = mem ∧ r = mem 59 2) :=
  CtI_of (by decide) (Nat.le_of_ble_eq_true rfl) rfl (t_X0_roundCount_0 hG mem ⟨rfl, rfl⟩)
end KX
