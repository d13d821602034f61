/-! the model: the text -/
theorem PlM.ow {m : Mem} {k : Nat} {x : Int32} : OtM m (wr m 331 k x) := ⟨fun a _ a2 _ _ => by rw [wr_n a2], fun j _ => by rw [wr_n (by decide)]⟩
section KM
variable {l : Launch} {G : Gx} {mem : Mem} {n len : Nat} {tx : Nat → Nat} {w : Nat → Nat} {P : Int32 → Mem → Prop}
theorem t_mEdges (hG : Mn G) (hr : Ra G 331) : ∀ (f : Nat) (m : Mem) (p : Nat) (E : Nat → Nat → Nat) (c : Nat → Nat → Prop) (D H : Nat → Nat → Nat), TxM m len tx → m 327 4 = nI n → m 327 2 = nI p → p ≤ 80 → RoAt m 331 w E → Fst n w E c D H → 12 ≤ Jn n c + f → (∀ (r : Int32) (m' : Mem), OtM m m' → ((∃ E', (rdE tx len n f p E).2 = some E' ∧ r = -9 ∧ RoAt m' 331 w E' ∧ ∃ c' D' H', Fst n w E' c' D' H') ∨ ((rdE tx len n f p E).2 = none ∧ r = nI (rdE tx len n f p E).1)) → P r m') → XI l M_X7_readText G P m 122 [(0, .ref (gA G 327))] [] := by
  intro f
  induction f with
  | zero =>
    intro m p E c D H _ _ _ _ _ F hj _
    have := Jn_lt (c := c) F.1.1
    have := F.le
    omega
  | succ f ih =>
    intro m p E c D H k1 k4 k2 k3 k5 F hj hP
    have hl := k1.2.1
    refine t_X7_readText_122 hG m ?_
    rw [k1.1, k2, i_nle (by omega) (by omega)]
    rw [rdE_s tx len n f p E] at hP
    refine ⟨fun z => ?_, fun z => ⟨_, c_mReadEdge hG k1 k2 k3 k4 hr k5 F, ?_⟩⟩
    · rw [if_pos z] at hP
      exact hP _ m OtM.rf (Or.inl ⟨E, rfl, rfl, k5, c, D, H, F⟩)
    · rw [if_neg z] at hP
      intro r m2 hr2
      obtain ⟨r2, r3, r4, r5⟩ := hr2
      generalize e : edg tx len n p E = R at hP r3 r4 r5
      obtain ⟨p2, o⟩ := R
      rcases r5 with ⟨E', ev, rfl, r6, c', D', H', r7, r8⟩ | ⟨ev, rfl⟩
      · dsimp only at ev
        subst ev
        dsimp only at hP r3 r4
        exact ⟨fun _ => ih m2 p2 E' c' D' H' (k1.ot r2) (by rw [r2.2 4 (by decide)]; exact k4) r3 r4 r6 r7 (by omega) (fun r m' q1 q2 => hP r m' (r2.tr q1) q2), fun z => absurd z (by decide)⟩
      · dsimp only at ev
        subst ev
        dsimp only at hP r3 r4
        exact ⟨fun z => absurd rfl z, fun _ => hP _ m2 r2 (Or.inr ⟨rfl, r3⟩)⟩
theorem t_mWeights (hG : Mn G) (hn : n ≤ 12) : ∀ (d k : Nat) (m : Mem), d + k = n → TxM m len tx → m 327 4 = nI n → m 327 2 = nI (3 + 2 * k) → (∀ v, v < k → m 331 v = nI (wOf tx v) ∧ wOf tx v ≤ 99) → (∀ j, k ≤ j → j < 156 → m 331 j = 0) → (∀ (r : Int32) (m' : Mem), OtM m m' → (rdW tx len d (3 + 2 * k)).2 = false → r = nI (rdW tx len d (3 + 2 * k)).1 → P r m') → (∀ m' : Mem, OtM m m' → (rdW tx len d (3 + 2 * k)).2 = true → m' 327 2 = nI (rdW tx len d (3 + 2 * k)).1 → (rdW tx len d (3 + 2 * k)).1 ≤ 80 → m' 327 4 = nI n → (∀ v, v < n → m' 331 v = nI (wOf tx v) ∧ wOf tx v ≤ 99) → (∀ j, n ≤ j → j < 156 → m' 331 j = 0) → XI l M_X7_readText G P m' 122 [(0, .ref (gA G 327))] []) → XI l M_X7_readText G P m 79 [(0, .ref (gA G 327)), (1, .int (nI k))] [] := by
  intro d
  induction d with
  | zero =>
    intro k m hk k1 k4 k2 k5 k6 _ hB
    have hk : k = n := by omega
    subst hk
    refine t_X7_readText_79 hG _ m ?_
    rw [k4]
    exact ⟨fun _ => hB m OtM.rf rfl k2 (by show 3 + 2 * k ≤ 80; omega) k4 k5 k6, fun z => absurd ((i_nle (by omega) (by omega)).mpr (Nat.le_refl _)) z⟩
  | succ d ih =>
    intro k m hk k1 k4 k2 k5 k6 hA hB
    have hl := k1.2.1
    refine t_X7_readText_79 hG _ m ?_
    rw [k4, i_cl (by omega), nI_1 k]
    refine ⟨fun z => absurd ((i_nle (by omega) (by omega)).mp z) (by omega), fun _ => ⟨_, c_mNumber hG k1 k2 (by omega) (least := 0) (g := 99) (by decide) (by decide), ?_⟩⟩
    intro r m1 hr
    obtain ⟨hm, hr⟩ := hr
    have ev : wr m1 331 k r 331 k = r := by rw [wr_at, if_pos ⟨rfl, rfl⟩]
    have kin := i_in (k := k) (n := 156) (by omega) (by decide)
    rw [ev]
    refine ⟨kin, kin, ?_⟩
    have ot : OtM m (wr m1 331 k r) := hm.ot.tr PlM.ow
    rw [rdW_s tx len d (3 + 2 * k)] at hA hB
    generalize e5 : num tx len (3 + 2 * k) 0 99 = R at hm hr hA hB
    obtain ⟨p5, o⟩ := R
    rcases hr with ⟨x, ev2, rfl⟩ | ⟨ev2, rfl⟩
    · dsimp only at ev2
      subst ev2
      dsimp only at hm hA hB
      obtain ⟨f1, f2, f3⟩ := wOf_of e5
      subst f3
      refine ⟨fun _ => ih (k + 1) _ (by omega) (k1.ot ot) (by rw [ot.2 4 (by decide)]; exact k4) (by rw [wr_n (by decide)]; exact hm.2.2) (fun v hv => ?_) (fun j h1 h2 => ?_) (fun r m' q1 q2 q3 => hA r m' (ot.tr q1) q2 q3) (fun m' q1 q2 q3 q4 q5 q6 q7 => hB m' (ot.tr q1) q2 q3 q4 q5 q6 q7), fun z => absurd z (i_n9 (by omega))⟩
      · rw [wr_at]
        by_cases e : v = k
        · subst e; rw [if_pos ⟨rfl, rfl⟩, f1]; exact ⟨rfl, f2⟩
        · rw [if_neg (by omega), hm.1 331 (by decide)]; exact k5 v (by omega)
      · rw [wr_at, if_neg (by omega), hm.1 331 (by decide)]; exact k6 j (by omega) h2
    · dsimp only at ev2
      subst ev2
      dsimp only at hm hA hB
      exact ⟨fun z => absurd rfl z, fun _ => hA _ _ ot rfl (by rw [wr_n (by decide)]; exact hm.2.2)⟩
/-- outside the reader's cells nothing changed; the number of vertices read may have -/
def OtN (mem m : Mem) : Prop := (∀ a, a ≠ 327 → a ≠ 331 → a ≠ 336 → a ≠ 337 → m a = mem a) ∧ ∀ j, j ≠ 2 → j ≠ 4 → m 327 j = mem 327 j
theorem OtM.nn {m1 m2 : Mem} (h : OtM m1 m2) : OtN m1 m2 := ⟨h.1, fun j q _ => h.2 j q⟩
theorem OtN.tr {m1 m2 m3 : Mem} (h : OtN m1 m2) (h2 : OtN m2 m3) : OtN m1 m3 := ⟨fun a a1 a2 a3 a4 => (h2.1 a a1 a2 a3 a4).trans (h.1 a a1 a2 a3 a4), fun j hj hk => (h2.2 j hj hk).trans (h.2 j hj hk)⟩
theorem OtN.w4 {m : Mem} {x : Int32} : OtN m (wr m 327 4 x) := ⟨fun a a1 _ _ _ => by rw [wr_n a1], fun j _ hk => by rw [wr_at, if_neg (by omega)]⟩
theorem TxM.on {mem m : Mem} (h : TxM mem len tx) (q : OtN mem m) : TxM m len tx := ⟨by rw [q.2 1 (by decide) (by decide)]; exact h.1, h.2.1, fun k hk => by rw [q.1 328 (by decide) (by decide) (by decide) (by decide)]; exact h.2.2 k hk⟩
theorem c_mReadText (hG : Mn G) (hra : Ra G 331) (ht : TxM mem len tx) : CtI l M_X7_readText G [.ref (gA G 327)] mem (fun r m => OtN mem m ∧ RdAns tx len r ∧ ∀ n E, (rd tx len).2 = some (n, E) → m 327 4 = nI n ∧ ∃ w c D H, RoAt m 331 w E ∧ (∀ v, v < n → w v = wOf tx v) ∧ Fst n w E c D H) := by
  have hl := ht.2.1
  refine CtI_of (by decide) (Nat.le_of_ble_eq_true rfl) rfl (t_X7_readText_0 hG mem ?_)
  refine up_loop (P := fun k => ∀ m : Mem, (∀ a, a ≠ 331 → m a = mem a) → (∀ j, j < k → m 331 j = 0) → XI l M_X7_readText G _ m 2 [(0, .ref (gA G 327)), (1, .int (nI k))] []) (n := 156) (Nat.zero_le _) ?_ ?_ mem (fun _ _ => rfl) (fun j q => absurd q (Nat.not_lt_zero j))
  · intro m i1 i2
    refine t_X7_readText_2 hG _ m ⟨fun _ => ?_, fun z => absurd ((i_nle (a := 156) (by decide) (by decide)).mpr (Nat.le_refl _)) z⟩
    have om : OtM mem m := ⟨fun a _ a2 _ _ => i1 a a2, fun j _ => by rw [i1 327 (by decide)]⟩
    have htm := ht.ot om
    have z0 : PlM m (wr m 327 2 0) 0 := PlM.w rfl
    have ot0 := om.tr z0.ot
    have ht0 := htm.pl z0
    have c0 : (0 : Int32).toNatClampNeg = 0 := rfl
    have c1 : wr m 327 2 0 327 1 = nI len := ht0.1
    rw [c0, c1]
    unfold RdAns rd
    refine ⟨fun z => ?_, fun z => ?_⟩
    · have e0 : len = 0 := by rw [i_eq, i_nI (by omega), i_0] at z; omega
      have e1 : tk tx len 0 70 70 = none := by unfold tk; rw [if_neg (by omega)]
      rw [e1]
      exact ⟨ot0.nn, Or.inr ⟨rfl, rfl⟩, fun n E y => by cases y⟩
    · have e0 : 0 < len := by
        rcases Nat.eq_zero_or_pos len with e | e
        · exact absurd (by rw [e]; rfl) z
        · exact e
      obtain ⟨g1, g2⟩ := ht0.2.2 0 e0
      rw [g1]
      refine ⟨fun y => ?_, fun y => ?_⟩
      · have e70 : tx 0 = 70 := by rw [i_eq, i_nI (by omega), i_70] at y; omega
        have e1 : tk tx len 0 70 70 = some 0 := by unfold tk; rw [if_pos (by omega), e70]
        rw [e1]
        dsimp only
        have z1 : PlM (wr m 327 2 0) (wr (wr m 327 2 0) 327 2 1) 1 := PlM.w rfl
        have ot1 := ot0.tr z1.ot
        have ht1 := ht0.pl z1
        refine ⟨_, c_mNumber hG ht1 z1.2.2 (by decide) (least := 1) (g := 12) (by decide) (by decide), ?_⟩
        intro r m2 hr
        obtain ⟨hm2, hr⟩ := hr
        have ev : wr m2 327 4 r 327 4 = r := by rw [wr_at, if_pos ⟨rfl, rfl⟩]
        have ev2 : wr m2 327 4 r 327 2 = m2 327 2 := by rw [wr_at, if_neg (by decide)]
        rw [ev, ev2]
        have on2 : OtN mem (wr m2 327 4 r) := (ot1.tr hm2.ot).nn.tr OtN.w4
        have ht2 := ht.on on2
        have row : ∀ j, j < 156 → wr m2 327 4 r 331 j = 0 := fun j hj => by
          rw [wr_n (by decide), hm2.1 331 (by decide), z1.1 331 (by decide), z0.1 331 (by decide)]; exact i2 j hj
        generalize e2 : num tx len 1 1 12 = R at hm2 hr ⊢
        obtain ⟨p2, o⟩ := R
        rcases hr with ⟨n, ev3, rfl⟩ | ⟨ev3, rfl⟩
        · dsimp only at ev3
          subst ev3
          dsimp only at hm2 ⊢
          obtain ⟨d1, d2, d3, d4, d5, d6, d7, d8, d9, d10⟩ := num_some e2
          have hn : 1 ≤ n ∧ n ≤ 12 := by
            have : 12 / 10 = 1 := rfl
            have : 12 % 10 = 2 := rfl
            omega
          refine ⟨fun _ => ?_, fun z => absurd z (i_n9 (by omega))⟩
          refine t_mWeights hG hn.2 n 0 _ rfl ht2 ev (by rw [ev2, hm2.2.2, d1]) (fun v hv => absurd hv (Nat.not_lt_zero v)) (fun j _ hj => row j hj) ?_ ?_
          · intro r m3 q1 q2 q3
            generalize e3 : rdW tx len n (3 + 2 * 0) = R at q2 q3
            obtain ⟨p4, o⟩ := R
            dsimp only at q2 q3
            subst q2
            dsimp only
            exact ⟨on2.tr q1.nn, Or.inr ⟨rfl, q3⟩, fun n' E y => by cases y⟩
          · intro m3 q1 q2 q3 q4 q5 q6 q7
            generalize e3 : rdW tx len n (3 + 2 * 0) = R at q2 q3 q4
            obtain ⟨p4, o⟩ := R
            dsimp only at q2 q3 q4
            subst q2
            dsimp only
            have ht3 := ht2.ot q1
            have hw : ∀ v, v < n → (if v < n then wOf tx v else 0) ≤ 99 := fun v hv => by rw [if_pos hv]; exact (q6 v hv).2
            have hR : RoAt m3 331 (fun v => if v < n then wOf tx v else 0) (fun _ _ => 0) := by
              refine ⟨fun v hv => ?_, fun u v hu hv => q7 _ (by omega) (by omega)⟩
              dsimp only
              by_cases q : v < n
              · rw [if_pos q]; exact (q6 v q).1
              · rw [if_neg q]; exact q7 v (by omega) (by omega)
            refine t_mEdges hG hra 12 m3 p4 _ _ _ _ ht3 q5 q3 q4 hR (Fst.empty hn hw) (by omega) ?_
            intro r m4 s1 s2
            generalize e4 : rdE tx len n 12 p4 (fun _ _ => 0) = R at s2 ⊢
            obtain ⟨p5, o⟩ := R
            rcases s2 with ⟨E', ev4, rfl, k5, c', D', H', k6⟩ | ⟨ev4, k5⟩
            · dsimp only at ev4
              subst ev4
              dsimp only
              refine ⟨on2.tr (q1.tr s1).nn, Or.inl ⟨n, E', rfl, rfl⟩, fun n' E'' y => ?_⟩
              cases y
              exact ⟨by rw [s1.2 4 (by decide)]; exact q5, _, c', D', H', k5, fun v hv => if_pos hv, k6⟩
            · dsimp only at ev4
              subst ev4
              dsimp only at k5 ⊢
              exact ⟨on2.tr (q1.tr s1).nn, Or.inr ⟨rfl, k5⟩, fun n' E'' y => by cases y⟩
        · dsimp only at ev3
          subst ev3
          dsimp only at hm2 ⊢
          exact ⟨fun z => absurd rfl z, fun _ => ⟨on2, Or.inr ⟨rfl, hm2.2.2⟩, fun n' E y => by cases y⟩⟩
      · have e70 : tx 0 ≠ 70 := fun e => y (by rw [e]; rfl)
        have e1 : tk tx len 0 70 70 = none := by unfold tk; rw [if_neg (by omega)]
        rw [e1]
        exact ⟨ot0.nn, Or.inr ⟨rfl, rfl⟩, fun n E y => by cases y⟩
  · intro k _ hk ih m i1 i2
    refine t_X7_readText_2 hG _ m ⟨fun z => absurd ((i_nle (a := 156) (by decide) (by omega)).mp z) (by omega), fun _ => ⟨i_in hk (by decide), ?_⟩⟩
    rw [i_cl (by omega), nI_1 k]
    refine ih _ (fun a ha => by rw [wr_n ha]; exact i1 a ha) (fun j hj => ?_)
    rw [wr_at]
    by_cases e : j = k
    · rw [if_pos ⟨rfl, e⟩]
    · rw [if_neg (by omega)]; exact i2 j (by omega)
end KM
