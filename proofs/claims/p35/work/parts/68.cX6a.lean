/-! the class: errors, commands -/
section KX
variable {l : Launch} {G : Gx} {mem : Mem} {n : Nat} {w : Nat → Nat} {E : Nat → Nat → Nat} {c : Nat → Nat → Prop} {D H : Nat → Nat → Nat}
theorem c_linkErr {s : Nat} (hs : Sv G s) (hf : FoAt mem (s - 15) n w E) (F : Fst n w E c D H) (u v x : Int32) : CtI l M_X6_linkError G [.ref (gA G (s - 15)), .ref (gA G s), .int u, .int v, .int x] mem (fun y m => Out s (s + 14) mem m ∧ LinkErr n c u v x y) := by
  have hn := F.le
  refine CtI_of (by decide) (Nat.le_of_ble_eq_true rfl) rfl (t_X6_linkError_0 (Sv_Fo hs) hs _ _ _ mem ?_)
  refine ⟨_, c_hasVertices (Sv_Fo hs) hf hn u v, ?_⟩
  rintro y m ⟨rfl, rfl⟩
  by_cases q : Vx n u ∧ Vx n v
  · rw [if_pos q]
    obtain ⟨i, hi, rfl⟩ := q.1.ex
    obtain ⟨j, hj, rfl⟩ := q.2.ex
    refine ⟨fun _ => ⟨fun z => ⟨Out.rf, Or.inr ⟨i, j, ⟨hi, hj, rfl, rfl⟩, Or.inl ⟨fun y => ?_, rfl⟩⟩⟩, fun z => ⟨fun z2 => ⟨_, c_measure hs hf F, ?_⟩, fun z2 => ⟨Out.rf, Or.inr ⟨i, j, ⟨hi, hj, rfl, rfl⟩, Or.inl ⟨fun y => z2 ?_, rfl⟩⟩⟩⟩⟩, fun z => absurd z (by decide)⟩
    · rw [i_lt, i_1] at z; omega
    · rintro m2 ⟨k1, k2⟩
      rw [i_lt, i_1] at z
      rw [i_le, i_99] at z2
      refine ⟨_, c_joined hs k1 F (by omega) (by omega), ?_⟩
      rintro y m ⟨rfl, rfl⟩
      exact jn (fun q => ⟨k2, Or.inr ⟨i, j, ⟨hi, hj, rfl, rfl⟩, Or.inr ⟨by omega, Or.inr ⟨q, rfl⟩⟩⟩⟩) (fun q => ⟨k2, Or.inr ⟨i, j, ⟨hi, hj, rfl, rfl⟩, Or.inr ⟨by omega, Or.inl ⟨q, rfl⟩⟩⟩⟩)
    · rw [i_le, i_99]; exact y.2
  · rw [if_neg q]
    exact ⟨fun z => absurd rfl z, fun _ => ⟨Out.rf, Or.inl ⟨q, rfl⟩⟩⟩
theorem c_cutErr {f : Nat} (hf' : Fo G f) (hf : FoAt mem f n w E) (F : Fst n w E c D H) (u v : Int32) : CtI l M_X6_cutError G [.ref (gA G f), .int u, .int v] mem (fun y m => m = mem ∧ EdgeErr n E u v 1 y) := by
  have hn := F.le
  have i1 : 1 ≤ (1 : Int32).toInt ∧ (1 : Int32).toInt ≤ 99 := by decide
  refine CtI_of (by decide) (Nat.le_of_ble_eq_true rfl) rfl (t_X6_cutError_0 hf' _ _ mem ?_)
  refine ⟨_, c_hasVertices hf' hf hn u v, ?_⟩
  rintro y m ⟨rfl, rfl⟩
  by_cases q : Vx n u ∧ Vx n v
  · rw [if_pos q]
    obtain ⟨i, hi, rfl⟩ := q.1.ex
    obtain ⟨j, hj, rfl⟩ := q.2.ex
    refine ⟨fun _ => ⟨_, c_hasEdge hf' hf hn hi hj (by have := F.2.2.1 i j; omega), ?_⟩, fun z => absurd z (by decide)⟩
    rintro y m ⟨rfl, rfl⟩
    by_cases e : 0 < E i j
    · rw [if_pos e]
      exact ⟨fun z => absurd z (by decide), fun _ => ⟨rfl, Or.inr ⟨i, j, ⟨hi, hj, rfl, rfl⟩, Or.inr ⟨i1, Or.inr ⟨e, rfl⟩⟩⟩⟩⟩
    · rw [if_neg e]
      exact ⟨fun _ => ⟨rfl, Or.inr ⟨i, j, ⟨hi, hj, rfl, rfl⟩, Or.inr ⟨i1, Or.inl ⟨by omega, rfl⟩⟩⟩⟩, fun z => absurd rfl z⟩
  · rw [if_neg q]
    exact ⟨fun z => absurd rfl z, fun _ => ⟨rfl, Or.inl ⟨q, rfl⟩⟩⟩
theorem c_triesLink (hG : Mn G) (hs : Sv G 45) (hf : FoAt mem 30 n w E) (g : Gd n E) (hw : ∀ v, v < n → w v ≤ 99) {u v : Nat} (hu : u < 2147483648) (hv : v < 2147483648) : CtI l M_X6_triesLink G [.ref (gA G 0), .int (nI u), .int (nI v)] mem (fun r m => Out 30 76 mem m ∧ (((u < n ∧ v < n ∧ ¬ gc n E u v) ∧ r = 1 ∧ FoAt m 30 n w (updE E u v 1)) ∨ (¬ (u < n ∧ v < n ∧ ¬ gc n E u v) ∧ r = 0))) := by
  have F := g.f hw
  have hn := F.le
  have i1 : 1 ≤ (1 : Int32).toInt ∧ (1 : Int32).toInt ≤ 99 := by decide
  refine CtI_of (by decide) (Nat.le_of_ble_eq_true rfl) rfl (t_X6_triesLink_0 hG _ _ mem ?_)
  refine ⟨_, c_linkErr (s := 45) hs hf F _ _ _, ?_⟩
  rintro y m ⟨k1, k2⟩
  have ok := k2.ok i1 hu hv hn
  have o1 : Out 30 76 mem m := k1.wd (by decide) (by decide)
  refine ⟨fun z => ?_, fun z => ⟨o1, Or.inr ⟨fun y => z (ok.mpr y), rfl⟩⟩⟩
  have q := ok.mp z
  refine ⟨_, c_putEdge (x := 1) (Sv_Fo hs) (hf.out k1 (by decide)) hn q.1 q.2.1, ?_⟩
  rintro m2 ⟨k3, k4⟩
  exact ⟨o1.tr (k4.wd (by decide) (by decide)), Or.inl ⟨q, rfl, k3⟩⟩
theorem c_triesCut (hG : Mn G) (hs : Sv G 45) (hf : FoAt mem 30 n w E) (g : Gd n E) (hw : ∀ v, v < n → w v ≤ 99) {u v : Nat} (hu : u < 2147483648) (hv : v < 2147483648) : CtI l M_X6_triesCut G [.ref (gA G 0), .int (nI u), .int (nI v)] mem (fun r m => Out 30 76 mem m ∧ (((u < n ∧ v < n ∧ 0 < E u v) ∧ r = 1 ∧ FoAt m 30 n w (updE E u v 0)) ∨ (¬ (u < n ∧ v < n ∧ 0 < E u v) ∧ r = 0))) := by
  have F := g.f hw
  have hn := F.le
  have i1 : 1 ≤ (1 : Int32).toInt ∧ (1 : Int32).toInt ≤ 99 := by decide
  refine CtI_of (by decide) (Nat.le_of_ble_eq_true rfl) rfl (t_X6_triesCut_0 hG _ _ mem ?_)
  refine ⟨_, c_cutErr (f := 30) (Sv_Fo hs) hf F _ _, ?_⟩
  rintro y m ⟨rfl, k2⟩
  have ok := k2.ok i1 hu hv hn
  refine ⟨fun z => ?_, fun z => ⟨Out.rf, Or.inr ⟨fun y => z (ok.mpr y), rfl⟩⟩⟩
  have q := ok.mp z
  refine ⟨_, c_putEdge (x := 0) (Sv_Fo hs) hf hn q.1 q.2.1, ?_⟩
  rintro m2 ⟨k3, k4⟩
  exact ⟨k4.wd (by decide) (by decide), Or.inl ⟨q, rfl, k3⟩⟩
theorem c_joinedIn (hG : Mn G) (hs : Sv G 45) (hf : FoAt mem 30 n w E) (F : Fst n w E c D H) {u v : Nat} (hu : u < 2147483648) (hv : v < 2147483648) : CtI l M_X6_joinedInTrial G [.ref (gA G 0), .int (nI u), .int (nI v)] mem (fun r m => Out 45 59 mem m ∧ SvAt m 45 n c D ∧ r = ifc (c u v) 1 0) := by
  refine CtI_of (by decide) (Nat.le_of_ble_eq_true rfl) rfl (t_X6_joinedInTrial_0 hG _ _ mem ?_)
  refine ⟨_, c_measure hs hf F, ?_⟩
  rintro m ⟨k1, k2⟩
  refine ⟨_, c_joined hs k1 F hu hv, ?_⟩
  rintro y m ⟨rfl, rfl⟩
  refine ⟨?_, k2, k1, rfl⟩
  by_cases q : c u v
  · rw [ifc_t q]; exact Or.inr rfl
  · rw [ifc_f q]; exact Or.inl rfl
theorem c_leaves (hG : Mn G) (hf' : Fo G 30) (hf : FoAt mem 30 n w E) (g : Gd n E) (hw : ∀ v, v < n → w v ≤ 99) {u v : Nat} (hu : u < n) (hv : v < n) : CtI l M_X6_leavesEarlier G [.ref (gA G 0), .int (nI u), .int (nI v)] mem (fun r m => Out 59 76 mem m ∧ ((Earl n E u v ∧ r = 1) ∨ (¬ Earl n E u v ∧ r = 0))) := by
  have F := g.f hw
  have hn := F.le
  refine CtI_of (by decide) (Nat.le_of_ble_eq_true rfl) rfl (t_X6_leavesEarlier_0 hG _ _ mem ?_)
  refine ⟨_, c_contract hG hf' (by decide) hf F hu, ?_⟩
  rintro m ⟨T1, -, t1, ca, -, o⟩
  refine ⟨_, c_ctRound hG ca hn hu, ?_⟩
  rintro r m ⟨rfl, rfl⟩
  refine ⟨_, c_ctRound hG ca hn hv, ?_⟩
  rintro r m ⟨rfl, rfl⟩
  have no : ∀ {p : Prop}, (p → ¬ (¬ (StC (S0 E (gc n E) u) T1).2.2 u = -9 ∧ ((StC (S0 E (gc n E) u) T1).2.2 v = -9 ∨ ¬ (StC (S0 E (gc n E) u) T1).2.2 v ≤ (StC (S0 E (gc n E) u) T1).2.2 u))) → p → ¬ Earl n E u v := by
    rintro p h1 h2 ⟨T2, f2, f3⟩
    have e := t1.uq f2
    subst e
    exact h1 h2 f3
  refine ⟨fun z => ⟨o, Or.inr ⟨no (fun z y => y.1 z) z, rfl⟩⟩, fun z => ⟨fun z2 => ⟨o, Or.inl ⟨⟨T1, t1, z, Or.inl z2⟩, rfl⟩⟩, fun z2 => ⟨fun z3 => ⟨o, Or.inr ⟨no (fun z3 y => ?_) z3, rfl⟩⟩, fun z3 => ⟨o, Or.inl ⟨⟨T1, t1, z, Or.inr z3⟩, rfl⟩⟩⟩⟩⟩
  rcases y.2 with y2 | y2
  · exact z2 y2
  · exact y2 z3
theorem c_obeys (hG : Mn G) (hs : Sv G 45) (hf : FoAt mem 30 n w E) (g : Gd n E) (hw : ∀ v, v < n → w v ≤ 99) {k : Nat} (hk : k < 100000) : CtI l M_X6_obeys G [.ref (gA G 0), .int (nI k)] mem (fun r m => Out 30 76 mem m ∧ ((cmdOk n E (k / 10000) (k / 100 % 100) (k % 100) ∧ r = 1 ∧ FoAt m 30 n w (cmdE E (k / 10000) (k / 100 % 100) (k % 100))) ∨ (¬ cmdOk n E (k / 10000) (k / 100 % 100) (k % 100) ∧ r = 0))) := by
  have F := g.f hw
  have T := F.tD
  have hn := F.le
  refine CtI_of (by decide) (Nat.le_of_ble_eq_true rfl) rfl (t_X6_obeys_0 hG _ mem ?_)
  rw [g_u hk, g_v hk]
  refine t_X6_obeys_13 hG _ _ _ mem ?_
  rw [g_how hk, i_nI (by omega)]
  have hu : k / 100 % 100 < 2147483648 := by omega
  have hv : k % 100 < 2147483648 := by omega
  generalize k / 100 % 100 = u at hu ⊢
  generalize k % 100 = v at hv ⊢
  generalize k / 10000 = how
  refine ⟨fun e => ?_, fun e => ?_, fun e => ?_, fun e => ?_, fun e => ?_, fun e1 e2 e3 e4 e5 => ⟨Out.rf, Or.inr ⟨cmdOk_0 (by omega), rfl⟩⟩⟩
  · have e : how = 1 := by omega
    subst e
    refine ⟨_, c_triesLink hG hs hf g hw hu hv, ?_⟩
    rintro y m ⟨k1, ⟨k2, rfl, k3⟩ | ⟨k2, rfl⟩⟩
    · exact ⟨Or.inr rfl, k1, Or.inl ⟨k2, rfl, k3⟩⟩
    · exact ⟨Or.inl rfl, k1, Or.inr ⟨k2, rfl⟩⟩
  · have e : how = 2 := by omega
    subst e
    refine ⟨_, c_triesCut hG hs hf g hw hu hv, ?_⟩
    rintro y m ⟨k1, ⟨k2, rfl, k3⟩ | ⟨k2, rfl⟩⟩
    · exact ⟨Or.inr rfl, k1, Or.inl ⟨k2, rfl, k3⟩⟩
    · exact ⟨Or.inl rfl, k1, Or.inr ⟨k2, rfl⟩⟩
  · have e : how = 3 := by omega
    subst e
    refine ⟨_, c_joinedIn hG hs hf F hu hv, ?_⟩
    rintro y m ⟨k1, -, rfl⟩
    have o : Out 30 76 mem m := k1.wd (by decide) (by decide)
    by_cases q : gc n E u v
    · rw [ifc_t q]; exact ⟨Or.inr rfl, o, Or.inl ⟨q, rfl, hf.out k1 (by decide)⟩⟩
    · rw [ifc_f q]; exact ⟨Or.inl rfl, o, Or.inr ⟨q, rfl⟩⟩
  · have e : how = 4 := by omega
    subst e
    refine ⟨_, c_joinedIn hG hs hf F hu hv, ?_⟩
    rintro y m ⟨k1, k2, rfl⟩
    have o : Out 30 76 mem m := k1.wd (by decide) (by decide)
    refine jn (fun q => ⟨o, Or.inr ⟨fun z => q z.1, rfl⟩⟩) (fun q => ⟨_, c_middleOf hs k2 F (T.v1 q), ?_⟩)
    rintro y m ⟨rfl, p, rfl, k3⟩
    have pn := k3.1
    rw [i_neq (by omega) hv]
    refine ⟨fun z => ⟨o, Or.inr ⟨fun y => z (k3.uq y.2), rfl⟩⟩, fun z => ?_⟩
    subst z
    exact ⟨o, Or.inl ⟨⟨q, k3⟩, rfl, hf.out k1 (by decide)⟩⟩
  · have e : how = 5 := by omega
    subst e
    refine ⟨_, c_joinedIn hG hs hf F hu hv, ?_⟩
    rintro y m ⟨k1, k2, rfl⟩
    have o : Out 30 76 mem m := k1.wd (by decide) (by decide)
    have hf2 := hf.out k1 (by decide)
    refine jn (fun q => ⟨o, Or.inr ⟨fun z => q z.1, rfl⟩⟩) (fun q => ⟨_, c_leaves hG (Sv_Fo hs) hf2 g hw (T.v1 q) (T.v2 q), ?_⟩)
    rintro y m2 ⟨k3, ⟨k4, rfl⟩ | ⟨k4, rfl⟩⟩
    · exact ⟨fun z => absurd z (by decide), fun _ => ⟨o.tr (k3.wd (by decide) (by decide)), Or.inl ⟨⟨q, k4⟩, rfl, hf2.out k3 (by decide)⟩⟩⟩
    · exact ⟨fun _ => ⟨o.tr (k3.wd (by decide) (by decide)), Or.inr ⟨fun z => k4 z.2, rfl⟩⟩, fun z => absurd rfl z⟩
end KX
