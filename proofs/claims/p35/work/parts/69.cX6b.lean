/-! the class: scripts, random changes -/
section KX
variable {l : Launch} {G : Gx} {mem : Mem} {n : Nat} {w : Nat → Nat} {E : Nat → Nat → Nat} {c : Nat → Nat → Prop} {D H : Nat → Nat → Nat}
theorem c_script (hG : Mn G) (h1 : Fo G 1) (hs : Sv G 45) (hf : FoAt mem 1 n w E) (g : Gd n E) (hw : ∀ v, v < n → w v ≤ 99) (a : Int32) (b : Int64) : CtI l M_X6_runScript G [.ref (gA G 0), .int a, .long b] mem (fun r m => Out 30 76 mem m ∧ ((ScrBad a b ∧ r = -2) ∨ ∃ k s, ScrIn a b k s ∧ ScrAns n E k s r)) := by
  refine CtI_of (by decide) (Nat.le_of_ble_eq_true rfl) rfl (t_X6_runScript_0 hG _ _ mem ?_)
  refine ⟨fun z => ⟨Out.rf, Or.inl ⟨Or.inl (fun y => ?_), rfl⟩⟩, fun z => ⟨fun z2 => ⟨Out.rf, Or.inl ⟨Or.inl (fun y => ?_), rfl⟩⟩, fun z2 => ⟨fun z3 => ?_, fun z3 => ⟨Out.rf, Or.inl ⟨?_, rfl⟩⟩⟩⟩⟩
  · rw [i_lt, i_1] at z; omega
  · rw [i_lt, i_3] at z2; omega
  · rw [i_lt, i_1] at z
    rw [i_lt, i_3] at z2
    obtain ⟨k, hk, rfl⟩ : ∃ k : Nat, k < 4 ∧ a = nI k := i_arg (by omega) (by omega)
    have hk1 : 1 ≤ k := by rw [i_nI (by omega)] at z; omega
    have hp := h_pow (k := k) (by omega)
    have b0 : 0 ≤ b.toInt := by
      rcases Int.lt_or_le b.toInt 0 with q | q
      · have h5 := (lg_lt b 0).mpr (by rw [i_64_0]; exact q)
        rw [i_lt, i_0] at h5
        rw [i_le, i_0] at z3
        omega
      · exact q
    obtain ⟨s, rfl, hs1⟩ := lN_of b0
    refine up_loop (P := fun i => XI l M_X6_runScript G _ mem 25 [(0, .ref (gA G 0)), (1, .int (nI k)), (2, .long (lN s)), (4, .long (lN (100000 ^ i))), (6, .int (nI i))] []) (n := k) (Nat.zero_le _) ?_ ?_
    · refine t_X6_runScript_25 hG _ _ _ _ mem ⟨fun _ => ⟨fun y => ⟨_, c_become (Sv_Fo hs) h1 hf (by decide), ?_⟩, fun y => ⟨Out.rf, Or.inl ⟨Or.inr ⟨k, rfl, hk1, by omega, fun q => y ((lg_lt _ _).mpr ?_)⟩, rfl⟩⟩⟩, fun z => absurd ((i_nle (by omega) (by omega)).mpr (Nat.le_refl _)) z⟩
      · rintro m1 ⟨k1, k2⟩
        have y2 := (lg_lt _ _).mp y
        have e63 : s < 2 ^ 63 := by have := Int64.toInt_lt (lN s); omega
        rw [lN_int e63, lN_int (by omega : 100000 ^ k < 2 ^ 63)] at y2
        have hs2 : s < 100000 ^ k := by omega
        have si : ScrIn (nI k) (lN s) k s := ⟨rfl, hk1, by omega, rfl, hs2⟩
        refine up_loop (P := fun i => ∀ m : Mem, Out 30 76 mem m → FoAt m 30 n w (scrE E k s i) → Gd n (scrE E k s i) → (∀ j, j < i → scrOk n E k s j) → XI l M_X6_runScript G _ m 69 [(0, .ref (gA G 0)), (1, .int (nI k)), (2, .long (lN s)), (4, .long (lN (100000 ^ (k - i)))), (6, .int (nI i))] []) (n := k) (Nat.zero_le _) ?_ ?_ m1 (k2.wd (by decide) (by decide)) k1 g (fun j hj => absurd hj (Nat.not_lt_zero j))
        · intro m o hR hg hok
          exact t_X6_runScript_69 hG _ _ _ _ m ⟨fun _ => ⟨o, Or.inr ⟨k, s, si, Or.inr ⟨hok, rfl⟩⟩⟩, fun z => absurd ((i_nle (by omega) (by omega)).mpr (Nat.le_refl _)) z⟩
        · intro i _ hi ih m o hR hg hok
          refine t_X6_runScript_69 hG _ _ _ _ m ⟨fun z => absurd ((i_nle (by omega) (by omega)).mp z) (by omega), fun _ => ?_⟩
          have p2 := h_pow (k := k - 1 - i) (by omega)
          have ep : 100000 ^ (k - i) = 100000 ^ (k - 1 - i) * 100000 := by rw [← Nat.pow_succ]; congr 1; omega
          have p3 := h_pow (k := k - i) (by omega)
          rw [ep] at p3
          have ed : lN (100000 ^ (k - i)) / 100000 = lN (100000 ^ (k - 1 - i)) := by
            rw [ep, show (100000 : Int64) = lN 100000 from rfl, pk_lDiv (by omega) (by decide) (by decide), Nat.mul_div_cancel _ (by decide)]
          have gl := grp_lt k s i
          rw [ed, l_grp (by omega) hs2, nI_1]
          refine ⟨fun z => ?_, fun _ => ⟨fun z => ?_, _, c_obeys hG hs hR hg hw gl, ?_⟩⟩
          · have := (lg_lt _ _).mp z
            rw [lN_int (by omega), i_64_1] at this
            omega
          · have z2 := congrArg Int64.toInt z
            rw [lN_int (by omega), i_64_0] at z2
            omega
          · rintro r m2 ⟨j1, j2⟩
            have o2 := o.tr j1
            rcases j2 with ⟨j2, rfl, j3⟩ | ⟨j2, rfl⟩
            · refine ⟨fun _ => ?_, fun z => absurd z (by decide)⟩
              have := ih m2 o2 j3 (hg.cmd j2) (fun j hj => by
                by_cases e : j = i
                · rw [e]; exact j2
                · exact hok j (by omega))
              rw [show k - (i + 1) = k - 1 - i by omega] at this
              exact this
            · exact ⟨fun z => absurd rfl z, fun _ => ⟨o2, Or.inr ⟨k, s, si, Or.inl ⟨i, hi, rfl, j2, hok⟩⟩⟩⟩
      · rw [lN_int (by omega : 100000 ^ k < 2 ^ 63)]
        exact q.2
    · intro i _ hi ih
      refine t_X6_runScript_25 hG _ _ _ _ mem ⟨fun z => absurd ((i_nle (by omega) (by omega)).mp z) (by omega), fun _ => ?_⟩
      rw [show (100000 : Int64) = lN 100000 from rfl, lN_mul, nI_1]
      exact ih
  · rw [i_lt, i_1] at z
    rw [i_lt, i_3] at z2
    obtain ⟨k, hk, rfl⟩ : ∃ k : Nat, k < 4 ∧ a = nI k := i_arg (by omega) (by omega)
    have hk1 : 1 ≤ k := by rw [i_nI (by omega)] at z; omega
    refine Or.inr ⟨k, rfl, hk1, by omega, fun q => z3 ?_⟩
    rcases Int.lt_or_le (lg_cmp b 0).toInt 0 with y | y
    · have := (lg_lt b 0).mp (by rw [i_lt, i_0]; exact y)
      rw [i_64_0] at this
      omega
    · rw [i_le, i_0]; exact y
/-- one random change -/
theorem c_change (hG : Mn G) (hs : Sv G 45) (hf : FoAt mem 30 n w E) (g : Gd n E) (hw : ∀ v, v < n → w v ≤ 99) {q : Nat} (hq : q < 2147483648) : CtV l M_X6_changeTrial G [.ref (gA G 0), .int (nI q)] mem (fun m => Out 30 76 mem m ∧ FoAt m 30 n w (rcE n E q)) := by
  have F := g.f hw
  have n1 : 1 ≤ n := g.1.1
  have hn := F.le
  refine CtV_of (by decide) (Nat.le_of_ble_eq_true rfl) rfl (t_X6_changeTrial_0 hG _ mem ?_)
  refine ⟨_, c_vertices (f := 30) (Sv_Fo hs) hf, ?_⟩
  rintro r m ⟨rfl, rfl⟩
  have nz : ¬ nI n = 0 := fun z => by rw [i_eq, i_nI (by omega), i_0] at z; omega
  rw [r_u hq n1 hn, r_v hq n1 hn, r_w hq]
  refine ⟨fun _ => ⟨nz, nz, ?_⟩, fun z => absurd ((i_nle (a := 1) (by decide) (by omega)).mpr n1) z⟩
  have hu : q % n < n := Nat.mod_lt _ n1
  have hv : q / 16 % n < n := Nat.mod_lt _ n1
  have hx : q / 256 % 99 < 99 := Nat.mod_lt _ (by decide)
  have be := F.2.2.1 (q % n) (q / 16 % n)
  refine t_X6_changeTrial_38 hG _ _ _ m ⟨_, c_hasEdge (f := 30) (Sv_Fo hs) hf hn hu hv (by omega), ?_⟩
  rintro r m ⟨rfl, rfl⟩
  have aw : (q / 256 % 99 + 1) < 2147483648 := by omega
  rw [r_2 aw]
  by_cases e0 : 0 < E (q % n) (q / 16 % n)
  · rw [if_pos e0]
    refine ⟨fun z => absurd z (by decide), fun _ => ⟨fun z2 => ⟨_, c_putEdge (f := 30) (Sv_Fo hs) hf hn hu hv, ?_⟩, fun z2 => ⟨_, c_putEdge (f := 30) (x := 0) (Sv_Fo hs) hf hn hu hv, ?_⟩⟩⟩
    · rintro m2 ⟨k1, k2⟩
      have ne : ¬ (q / 256 % 99 + 1) % 2 = 0 := fun e => z2 (by rw [e]; rfl)
      refine ⟨k2.wd (by decide) (by decide), ?_⟩
      unfold rcE
      rw [if_pos e0, if_neg ne]
      exact k1
    · rintro m2 ⟨k1, k2⟩
      have e : (q / 256 % 99 + 1) % 2 = 0 := by
        rw [i_eq, i_nI (by omega), i_0] at z2
        omega
      refine ⟨k2.wd (by decide) (by decide), ?_⟩
      unfold rcE
      rw [if_pos e0, if_pos e]
      exact k1
  · rw [if_neg e0]
    refine ⟨fun _ => ⟨_, c_linkErr (s := 45) hs hf F _ _ _, ?_⟩, fun z => absurd rfl z⟩
    rintro r m2 ⟨k1, k2⟩
    have o1 : Out 30 76 m m2 := k1.wd (by decide) (by decide)
    have ok := k2.ok (by rw [i_nI (by omega)]; omega) (by omega) (by omega) hn
    refine ⟨fun z => ⟨o1, ?_⟩, fun z => ?_⟩
    · have q : gc n E (q % n) (q / 16 % n) := Classical.byContradiction fun y => z (ok.mpr ⟨hu, hv, y⟩)
      unfold rcE
      rw [if_neg e0, ifc_t q]
      exact hf.out k1 (by decide)
    · have q := (ok.mp z).2.2
      refine ⟨_, c_putEdge (f := 30) (Sv_Fo hs) (hf.out k1 (by decide)) hn hu hv, ?_⟩
      rintro m3 ⟨k3, k4⟩
      refine ⟨o1.tr (k4.wd (by decide) (by decide)), ?_⟩
      unfold rcE
      rw [if_neg e0, ifc_f q]
      exact k3
theorem c_random (hG : Mn G) (h1 : Fo G 1) (hs : Sv G 45) (hf : FoAt mem 1 n w E) (g : Gd n E) (hw : ∀ v, v < n → w v ≤ 99) (s : Int64) (a : Int32) : CtI l M_X6_randomChanges G [.ref (gA G 0), .long s, .int a] mem (fun r m => Out 30 76 mem m ∧ RndAns n E s a r) := by
  have n1 : 1 ≤ n := g.1.1
  refine CtI_of (by decide) (Nat.le_of_ble_eq_true rfl) rfl (t_X6_randomChanges_0 hG _ _ mem ?_)
  refine ⟨fun z => ⟨Out.rf, Or.inl ⟨fun y => ?_, rfl⟩⟩, fun z => ⟨fun z2 => ⟨_, c_become (f := 30) (Sv_Fo hs) h1 hf (by decide), ?_⟩, fun z2 => ⟨Out.rf, Or.inl ⟨fun y => z2 ?_, rfl⟩⟩⟩⟩
  · rw [i_lt, i_1] at z; omega
  · rintro m1 ⟨k1, k2⟩
    rw [i_lt, i_1] at z
    rw [i_le, i_60] at z2
    obtain ⟨k, hk, rfl⟩ : ∃ k : Nat, k < 61 ∧ a = nI k := i_arg (by omega) (by omega)
    have hk1 : 1 ≤ k := by rw [i_nI (by omega)] at z; omega
    refine up_loop (P := fun i => ∀ m : Mem, Out 30 76 mem m → FoAt m 30 n w (rEk n E s i) → XI l M_X6_randomChanges G _ m 34 [(0, .ref (gA G 0)), (3, .int (nI k)), (4, .long (rx s i)), (6, .int (nI (rSum n E s i))), (7, .int (nI i))] []) (n := k) (Nat.zero_le _) ?_ ?_ m1 (k2.wd (by decide) (by decide)) k1
    · intro m o _
      exact t_X6_randomChanges_34 hG _ _ _ _ m ⟨fun _ => ⟨o, Or.inr ⟨k, rfl, hk1, by omega, rfl⟩⟩, fun z => absurd ((i_nle (by omega) (by omega)).mpr (Nat.le_refl _)) z⟩
    · intro i _ hi ih m o hR
      have er : (((rx s i * 6364136223846793005 + 1442695040888963407).toUInt64 >>> ((33 : Int32).toInt64.toUInt64 &&& Int64.toUInt64 63)).toInt64).toInt32 = nI (rq (rx s (i + 1))) := rnR_eq (rx s (i + 1))
      refine t_X6_randomChanges_34 hG _ _ _ _ m ⟨fun z => absurd ((i_nle (by omega) (by omega)).mp z) (by omega), fun _ => ?_⟩
      rw [er]
      refine ⟨_, c_change hG hs hR (g.rk s i) hw (rq_lt _), ?_⟩
      rintro m2 ⟨j1, j2⟩
      have F2 := (g.rk s (i + 1)).f hw
      refine ⟨_, c_measure hs j2 F2, ?_⟩
      rintro m3 ⟨j3, j4⟩
      refine ⟨_, c_widthAround hs j3 F2 (v := 0) (by omega), ?_⟩
      rintro r m4 ⟨rfl, rfl⟩
      have := ih m4 ((o.tr j1).tr (j4.wd (by decide) (by decide))) (j2.out j4 (by decide))
      have eS : rSum n E s (i + 1) = rSum n E s i + dia0 n (rEk n E s (i + 1)) := rfl
      rw [eS] at this
      rw [nI_1, nI_add]
      exact this
  · rw [i_le, i_60]; exact y.2
end KX
