/-! Survey: measuring -/
def SvL (m : Mem) (s n : Nat) (L : Nat → Nat → Nat) : Prop := m s 1 = nI n ∧ ∀ a b, a < n → b < n → m (s + 2 + a) b = nI (L a b)
def extRow (L : Nat → Nat → Nat) (k u : Nat) : Nat → Nat → Nat := fun a b => if a = u ∧ L u k < 1000000 then min (L u b) (L u k + L k b) else L a b
theorem i_far {x : Nat} (h : x < 2147483648) : nI x < (1000000 : Int32) ↔ x < 1000000 := by
  rw [i_lt, i_nI h, i_1000000]; omega
theorem i_min {a b : Nat} (ha : a < 2147483648) (hb : b < 2147483648) : (if nI a < nI b then nI a else nI b) = nI (min a b) := by
  by_cases h : a < b
  · rw [if_pos ((i_nlt ha hb).mpr h), Nat.min_eq_left (by omega)]
  · rw [if_neg (fun q => h ((i_nlt ha hb).mp q)), Nat.min_eq_right (by omega)]
section CS
variable {l : Launch} {G : Gx} {s n : Nat} {mem : Mem}
theorem c_extendOver (hs : Sv G s) {L : Nat → Nat → Nat} (h : SvL mem s n L) (hn : n ≤ 12) (hL : ∀ a b, a < n → b < n → L a b ≤ 1000000) {k u : Nat} (hk : k < n) (hu : u < n) : CtV l M_X5_extendOver G [.ref (gA G s), .int (nI k), .int (nI u)] mem (fun m => SvL m s n (extRow L k u) ∧ Out s (s + 14) mem m) := by
  refine CtV_of (by decide) (Nat.le_of_ble_eq_true rfl) rfl (t_X5_extendOver_0 hs _ _ mem ⟨i_in (by omega) (by decide), i_in (by omega) (by decide), ?_⟩)
  have b1 := hL u k hu hk
  rw [i_cl (by omega), i_cl (by omega), h.2 u k hu hk, i_far (by omega)]
  refine ⟨fun q => ?_, fun q => ⟨⟨h.1, fun a b ha hb => ?_⟩, Out.rf⟩⟩
  · refine up_loop (P := fun v => ∀ m : Mem, Out s (s + 14) mem m → SvL m s n (fun a b => if a = u ∧ b < v then min (L u b) (L u k + L k b) else L a b) → XV l M_X5_extendOver G _ m 19 [(0, .ref (gA G s)), (1, .int (nI k)), (2, .int (nI u)), (3, .int (nI (L u k))), (4, .int (nI v))] []) (n := n) (Nat.zero_le _) ?_ ?_ mem Out.rf ⟨h.1, fun a b ha hb => by dsimp only; rw [if_neg (by omega)]; exact h.2 a b ha hb⟩
    · intro m ho hm
      refine t_X5_extendOver_19 hs _ _ _ _ m ?_
      rw [hm.1]
      refine ⟨fun _ => ⟨⟨hm.1, fun a b ha hb => ?_⟩, ho⟩, fun z => absurd ((i_nle (by omega) (by omega)).mpr (Nat.le_refl _)) z⟩
      rw [hm.2 a b ha hb]
      dsimp only
      unfold extRow
      by_cases e : a = u
      · rw [if_pos ⟨e, hb⟩, if_pos ⟨e, q⟩]
      · rw [if_neg (by omega), if_neg (by omega)]
    · intro v _ hv ih m ho hm
      refine t_X5_extendOver_19 hs _ _ _ _ m ?_
      rw [hm.1]
      refine ⟨fun z => absurd ((i_nle (by omega) (by omega)).mp z) (by omega), fun _ => ⟨i_in (by omega) (by decide), i_in (by omega) (by decide), i_in (by omega) (by decide), i_in (by omega) (by decide), i_in (by omega) (by decide), i_in (by omega) (by decide), ?_⟩⟩
      have r1 := hm.2 u v hu hv
      have r2 := hm.2 k v hk hv
      simp only [Nat.lt_irrefl, and_false, if_false] at r1 r2
      have b2 := hL u v hu hv
      have b3 := hL k v hk hv
      rw [i_cl (by omega), i_cl (by omega), i_cl (by omega), r1, r2, nI_add, i_min (by omega) (by omega), nI_1]
      refine ih _ (ho.wr (by omega) (by omega)) ⟨?_, fun a b ha hb => ?_⟩
      · rw [wr_n (by omega)]; exact hm.1
      · rw [wr_at]
        by_cases e : a = u ∧ b = v
        · obtain ⟨rfl, rfl⟩ := e
          dsimp only
          rw [if_pos ⟨rfl, rfl⟩, if_pos ⟨rfl, by omega⟩, Nat.min_comm]
        · rw [if_neg (by omega), hm.2 a b ha hb]
          dsimp only
          by_cases e2 : a = u ∧ b < v
          · rw [if_pos e2, if_pos (by omega)]
          · rw [if_neg e2, if_neg (by omega)]
  · rw [h.2 a b ha hb]
    unfold extRow
    rw [if_neg (fun z => q z.2)]
/-- the survey's cells hold the distances -/
def SvAt (m : Mem) (s n : Nat) (c : Nat → Nat → Prop) (D : Nat → Nat → Nat) : Prop := m s 1 = nI n ∧ ∀ u v, u < n → v < n → (c u v → m (s + 2 + u) v = nI (D u v)) ∧ (¬ c u v → m (s + 2 + u) v = 1000000)
def betw (c : Nat → Nat → Prop) (D : Nat → Nat → Nat) (x u v : Nat) : Prop := c u x ∧ x ≠ u ∧ x ≠ v ∧ D u x + D x v = D u v
def FWI (n : Nat) (c : Nat → Nat → Prop) (D : Nat → Nat → Nat) (k : Nat) (L : Nat → Nat → Nat) : Prop :=
  (∀ u v, u < n → v < n → L u v ≤ 1000000 ∧ (c u v → D u v ≤ L u v) ∧ (¬ c u v → L u v = 1000000)) ∧ ∀ u v, c u v → (∀ x, betw c D x u v → x < k) → L u v = D u v
def newv (L : Nat → Nat → Nat) (k : Nat) : Nat → Nat → Nat := fun a b => if L a k < 1000000 then min (L a b) (L a k + L k b) else L a b
variable {w : Nat → Nat} {E : Nat → Nat → Nat} {c : Nat → Nat → Prop} {D H : Nat → Nat → Nat}
theorem FWI.diag (F : Fst n w E c D H) {k : Nat} {L : Nat → Nat → Nat} (h : FWI n c D k L) {x : Nat} (hx : x < n) : L x x = 0 := by
  rw [h.2 x x (F.tD.rf hx) (fun y q => ?_)]
  · exact F.tD.d0 hx
  · have h0 := F.tD.d0 hx
    have h1 := F.tD.d00 q.1 (by have := q.2.2.2; omega)
    exact absurd h1.symm q.2.1
theorem FWI.start (F : Fst n w E c D H) : FWI n c D 0 (fun u v => if u = v then 0 else if E u v = 0 then 1000000 else E u v) := by
  refine ⟨fun u v hu hv => ⟨?_, fun q => ?_, fun q => ?_⟩, fun u v q hx => ?_⟩
  · show (if u = v then 0 else if E u v = 0 then 1000000 else E u v) ≤ _
    have := F.2.2.1 u v
    split <;> (try split) <;> omega
  · show D u v ≤ (if u = v then 0 else if E u v = 0 then 1000000 else E u v)
    by_cases e : u = v
    · subst e; rw [if_pos rfl]; have := F.tD.d0 hu; omega
    · rw [if_neg e]
      split
      · have := F.dlt q; omega
      · next z => have := F.tD.de (x := u) (y := v) (by omega); omega
  · show (if u = v then 0 else if E u v = 0 then 1000000 else E u v) = _
    rw [if_neg (fun e => q (by rw [e]; exact F.tD.rf hv)), if_pos]
    rcases Nat.eq_zero_or_pos (E u v) with e | e
    · exact e
    · exact absurd (F.tD.ed e) q
  · show (if u = v then 0 else if E u v = 0 then 1000000 else E u v) = _
    by_cases e : u = v
    · subst e; rw [if_pos rfl]; exact (F.tD.d0 (F.tD.v1 q)).symm
    · rw [if_neg e]
      obtain ⟨z, h1, h2⟩ := F.tD.a5 q e
      by_cases ez : z = v
      · subst ez
        rw [if_neg (by omega)]
        exact (F.tD.de h1).symm
      · have h3 := F.tD.de h1
        exact absurd (hx z ⟨F.tD.ed h1, fun e2 => by subst e2; have := F.tD.wi z; omega, ez, by omega⟩) (Nat.not_lt_zero _)
theorem FWI.next (F : Fst n w E c D H) {k : Nat} {L : Nat → Nat → Nat} (h : FWI n c D k L) (hk : k < n) : FWI n c D (k + 1) (newv L k) := by
  refine ⟨fun u v hu hv => ?_, fun u v q hx => ?_⟩
  · obtain ⟨a1, a2, a3⟩ := h.1 u v hu hv
    obtain ⟨b1, b2, b3⟩ := h.1 u k hu hk
    obtain ⟨d1, d2, d3⟩ := h.1 k v hk hv
    unfold newv
    by_cases e : L u k < 1000000
    · rw [if_pos e]
      have q1 : c u k := Classical.byContradiction fun z => by have := b3 z; omega
      refine ⟨by omega, fun q => ?_, fun q => ?_⟩
      · have q2 := F.tD.tr (F.tD.sy q1) q
        have := F.tD.tri' q1 q2
        have := a2 q
        have := b2 q1
        have := d2 q2
        omega
      · have := a3 q
        have := d3 (fun z => q (F.tD.tr q1 z))
        omega
    · rw [if_neg e]; exact ⟨a1, a2, a3⟩
  · have hu := F.tD.v1 q
    have hv := F.tD.v2 q
    obtain ⟨a1, a2, a3⟩ := h.1 u v hu hv
    obtain ⟨b1, b2, b3⟩ := h.1 u k hu hk
    obtain ⟨d1, d2, d3⟩ := h.1 k v hk hv
    unfold newv
    by_cases hb : betw c D k u v
    · have q1 := hb.1
      have q2 := F.tD.tr (F.tD.sy q1) q
      have e1 : L u k = D u k := h.2 u k q1 (fun x hx2 => by
        have t1 := F.tD.tri' hx2.1 (F.tD.tr (F.tD.sy hx2.1) q)
        have t2 := F.tD.tri' (F.tD.tr (F.tD.sy hx2.1) q1) q2
        have t3 := hx2.2.2.2
        have t4 := hb.2.2.2
        have t5 : x ≠ v := fun e => by
          subst e
          have := F.tD.pos q2 hb.2.2.1
          have := F.tD.ds q2
          omega
        have := hx x ⟨hx2.1, hx2.2.1, t5, by omega⟩
        have := hx2.2.2.1
        omega)
      have e2 : L k v = D k v := h.2 k v q2 (fun x hx2 => by
        have t0 := F.tD.tr q1 hx2.1
        have t1 := F.tD.tri' q1 hx2.1
        have t2 := F.tD.tri' t0 (F.tD.tr (F.tD.sy t0) q)
        have t3 := hx2.2.2.2
        have t4 := hb.2.2.2
        have t5 : x ≠ u := fun e => by
          subst e
          have := F.tD.pos (F.tD.sy q1) (fun e => hb.2.1 e)
          have := F.tD.ds q1
          omega
        have := hx x ⟨t0, t5, hx2.2.2.1, by omega⟩
        have := hx2.2.1
        omega)
      have t4 := hb.2.2.2
      have t5 := F.dlt q
      rw [if_pos (by omega)]
      have := a2 q
      omega
    · have e := h.2 u v q (fun x hx2 => by
        have := hx x hx2
        have : x ≠ k := fun e => hb (by rw [← e]; exact hx2)
        omega)
      split
      · next z =>
        have q1 : c u k := Classical.byContradiction fun z2 => by have := b3 z2; omega
        have q2 := F.tD.tr (F.tD.sy q1) q
        have := F.tD.tri' q1 q2
        have := b2 q1
        have := d2 q2
        omega
      · exact e
theorem c_measure (hs : Sv G s) (hf : FoAt mem (s - 15) n w E) (F : Fst n w E c D H) : CtV l M_X5_measure G [.ref (gA G s)] mem (fun m => SvAt m s n c D ∧ Out s (s + 14) mem m) := by
  have hs15 : 15 ≤ s := by rcases hs.1 with rfl | rfl <;> decide
  have hn := F.le
  refine CtV_of (by decide) (Nat.le_of_ble_eq_true rfl) rfl (t_X5_measure_0 hs mem ⟨_, c_vertices (Sv_Fo hs) hf, ?_⟩)
  rintro r m0 ⟨rfl, rfl⟩
  -- the rounds over 'via'
  have rounds : ∀ m : Mem, Out s (s + 14) m0 m → ∀ L, SvL m s n L → FWI n c D 0 L → XV l M_X5_measure G (fun m => SvAt m s n c D ∧ Out s (s + 14) m0 m) m 82 [(0, .ref (gA G s)), (1, .int (nI 0))] [] := by
    refine up_loop (P := fun k => ∀ m : Mem, Out s (s + 14) m0 m → ∀ L, SvL m s n L → FWI n c D k L → XV l M_X5_measure G _ m 82 [(0, .ref (gA G s)), (1, .int (nI k))] []) (n := n) (Nat.zero_le _) ?_ ?_
    · intro m ho L hL hI
      refine t_X5_measure_82 hs _ m ?_
      rw [hL.1]
      refine ⟨fun _ => ⟨⟨hL.1, fun u v hu hv => ⟨fun q => ?_, fun q => ?_⟩⟩, ho⟩, fun z => absurd ((i_nle (by omega) (by omega)).mpr (Nat.le_refl _)) z⟩
      · rw [hL.2 u v hu hv, hI.2 u v q (fun x hx => F.tD.v2 hx.1)]
      · rw [hL.2 u v hu hv, (hI.1 u v hu hv).2.2 q]; rfl
    · intro k _ hk ih m ho L0 hL hI
      refine t_X5_measure_82 hs _ m ?_
      rw [hL.1]
      refine ⟨fun z => absurd ((i_nle (by omega) (by omega)).mp z) (by omega), fun _ => ?_⟩
      refine up_loop (P := fun u => ∀ m : Mem, Out s (s + 14) m0 m → ∀ L, SvL m s n L → (∀ a b, a < n → b < n → L a b = if a < u then newv L0 k a b else L0 a b) → XV l M_X5_measure G _ m 92 [(0, .ref (gA G s)), (1, .int (nI k)), (2, .int (nI u))] []) (n := n) (Nat.zero_le _) ?_ ?_ m ho L0 hL (fun a b _ _ => by rw [if_neg (Nat.not_lt_zero _)])
      · intro m ho L hL hq
        refine t_X5_measure_92 hs _ _ m ?_
        rw [hL.1]
        refine ⟨fun _ => ?_, fun z => absurd ((i_nle (by omega) (by omega)).mpr (Nat.le_refl _)) z⟩
        rw [nI_1]
        refine ih m ho (newv L0 k) ⟨hL.1, fun a b ha hb => ?_⟩ (hI.next F hk)
        rw [hL.2 a b ha hb, hq a b ha hb, if_pos ha]
      · intro u _ hu ih2 m ho L hL hq
        refine t_X5_measure_92 hs _ _ m ?_
        rw [hL.1]
        have hb : ∀ a b, a < n → b < n → L a b ≤ 1000000 := fun a b ha hb => by
          rw [hq a b ha hb]
          split
          · exact ((hI.next F hk).1 a b ha hb).1
          · exact (hI.1 a b ha hb).1
        refine ⟨fun z => absurd ((i_nle (by omega) (by omega)).mp z) (by omega), fun _ => ⟨_, c_extendOver hs hL hn hb hk hu, ?_⟩⟩
        intro m2 hm2
        rw [nI_1]
        refine ih2 m2 (ho.tr hm2.2) _ hm2.1 (fun a b ha hb2 => ?_)
        have e1 : L u k = L0 u k := by rw [hq u k hu hk, if_neg (Nat.lt_irrefl _)]
        have e2 : L u b = L0 u b := by rw [hq u b hu hb2, if_neg (Nat.lt_irrefl _)]
        have e3 : L k b = L0 k b := by
          rw [hq k b hk hb2]
          split
          · unfold newv
            rw [hI.diag F hk, if_pos (by decide)]
            omega
          · rfl
        unfold extRow
        by_cases e : a = u
        · subst e
          rw [if_pos (Nat.lt_succ_self _)]
          unfold newv
          by_cases g : L0 a k < 1000000
          · rw [if_pos ⟨rfl, by omega⟩, if_pos g, e1, e2, e3]
          · rw [if_neg (by omega), if_neg g, e2]
        · rw [if_neg (by omega), hq a b ha hb2]
          by_cases g : a < u
          · rw [if_pos g, if_pos (by omega)]
          · rw [if_neg g, if_neg (by omega)]
  -- the table of the edges
  refine up_loop (P := fun u => ∀ m : Mem, Out s (s + 14) m0 m → m s 1 = nI n → (∀ a b, a < u → b < n → m (s + 2 + a) b = nI (if a = b then 0 else if E a b = 0 then 1000000 else E a b)) → XV l M_X5_measure G _ m 13 [(0, .ref (gA G s)), (1, .int (nI u))] []) (n := n) (Nat.zero_le _) ?_ ?_ _ (Out.rf.wr (by omega) (by omega)) (by rw [wr_s, upd_s]) (fun a b ha => absurd ha (Nat.not_lt_zero _))
  · intro m ho h1 h2
    refine t_X5_measure_13 hs _ m ?_
    rw [h1]
    refine ⟨fun _ => rounds m ho _ ⟨h1, fun a b ha hb => h2 a b ha hb⟩ (FWI.start F), fun z => absurd ((i_nle (by omega) (by omega)).mpr (Nat.le_refl _)) z⟩
  · intro u _ hu ih m ho h1 h2
    refine t_X5_measure_13 hs _ m ?_
    rw [h1]
    refine ⟨fun z => absurd ((i_nle (by omega) (by omega)).mp z) (by omega), fun _ => ?_⟩
    refine up_loop (P := fun v => ∀ m : Mem, Out s (s + 14) m0 m → m s 1 = nI n → (∀ a b, a < u → b < n → m (s + 2 + a) b = nI (if a = b then 0 else if E a b = 0 then 1000000 else E a b)) → (∀ b, b < v → m (s + 2 + u) b = nI (if E u b = 0 then 1000000 else E u b)) → XV l M_X5_measure G _ m 23 [(0, .ref (gA G s)), (1, .int (nI u)), (2, .int (nI v))] []) (n := n) (Nat.zero_le _) ?_ ?_ m ho h1 h2 (fun b hb => absurd hb (Nat.not_lt_zero _))
    · intro m ho h1 h2 h3
      refine t_X5_measure_23 hs _ _ m ?_
      rw [h1]
      refine ⟨fun _ => ⟨i_in (by omega) (by decide), i_in (by omega) (by decide), ?_⟩, fun z => absurd ((i_nle (by omega) (by omega)).mpr (Nat.le_refl _)) z⟩
      rw [nI_1, i_cl (by omega)]
      refine ih _ (ho.wr (by omega) (by omega)) (by rw [wr_n (by omega)]; exact h1) (fun a b ha hb => ?_)
      rw [wr_at]
      by_cases e : a = u
      · subst e
        by_cases e2 : b = a
        · subst e2; rw [if_pos ⟨rfl, rfl⟩, if_pos rfl]; rfl
        · rw [if_neg (by omega), if_neg (by omega)]; exact h3 b hb
      · rw [if_neg (by omega)]; exact h2 a b (by omega) hb
    · intro v _ hv ih2 m ho h1 h2 h3
      refine t_X5_measure_23 hs _ _ m ?_
      rw [h1]
      have hf2 : FoAt m (s - 15) n w E := hf.out ho (by omega)
      refine ⟨fun z => absurd ((i_nle (by omega) (by omega)).mp z) (by omega), fun _ => ⟨_, c_edgeBetween (Sv_Fo hs) hf2 hn hu hv, ?_⟩⟩
      rintro r m2 ⟨rfl, rfl⟩
      have hE := F.2.2.1 u v
      rw [nI_1, i_cl (by omega), i_cl (by omega)]
      have step : ∀ x : Nat, x = (if E u v = 0 then 1000000 else E u v) → XV l M_X5_measure G (fun m => SvAt m s n c D ∧ Out s (s + 14) m0 m) (wr m2 (s + 2 + u) v (nI x)) 23 [(0, .ref (gA G s)), (1, .int (nI u)), (2, .int (nI (v + 1)))] [] := by
        intro x hx
        refine ih2 _ (ho.wr (by omega) (by omega)) (by rw [wr_n (by omega)]; exact h1) (fun a b ha hb => by rw [wr_n (by omega)]; exact h2 a b ha hb) (fun b hb => ?_)
        rw [wr_at]
        by_cases e : b = v
        · subst e; rw [if_pos ⟨rfl, rfl⟩, hx]
        · rw [if_neg (by omega)]; exact h3 b (by omega)
      refine ⟨i_in (by omega) (by decide), fun q => ⟨i_in (by omega) (by decide), step _ ?_⟩, fun q => ⟨i_in (by omega) (by decide), step 1000000 ?_⟩⟩
      · rw [i_eq, i_nI (by omega), i_0] at q
        rw [if_neg (by omega)]
      · rw [i_eq, i_nI (by omega), i_0] at q
        rw [if_pos (by omega)]
end CS
