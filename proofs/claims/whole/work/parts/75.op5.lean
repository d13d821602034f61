/-! actions, undo: class and model go alike -/
section OP
variable {l : Launch} {G : Gx} {mem m m' : Mem} {n : Nat}
theorem Hi.push {m1 m5 : Mem} {nx ct : Nat} (a3 : nx < 14) (a6 : ct ≤ 14) (a7 : ∀ j, j < ct → Sh n m1 (81 + 15 * ((nx + 13 - j) % 14)) (fun i => m1 332 (156 * ((nx + 13 - j) % 14) + i))) (c1 : m5 79 1 = nI ((nx + 1) % 14)) (c2 : m5 79 2 = nI (min (ct + 1) 14)) (d1 : m5 327 10 = nI ((nx + 1) % 14)) (d2 : m5 327 9 = nI (min (ct + 1) 14)) (new : Sh n m5 (81 + 15 * nx) (fun i => m5 332 (156 * nx + i))) (c5 : ∀ a, 81 ≤ a → a < 291 → (a < 81 + 15 * nx ∨ 81 + 15 * nx + 15 ≤ a) → m5 a = m1 a) (d3 : ∀ j, (j < 156 * nx ∨ 156 * nx + 156 ≤ j) → m5 332 j = m1 332 j) : Hi n m5 := by
  have b : (nx + 1) % 14 < 14 := Nat.mod_lt _ (by decide)
  refine ⟨(nx + 1) % 14, min (ct + 1) 14, ⟨c1, d1, b⟩, ⟨c2, d2, Nat.min_le_right _ _⟩, fun j hj => ?_⟩
  have hj1 : j < ct + 1 := Nat.lt_of_lt_of_le hj (Nat.min_le_left _ _)
  have hj2 : j < 14 := Nat.lt_of_lt_of_le hj (Nat.min_le_right _ _)
  by_cases e : j = 0
  · have ei : ((nx + 1) % 14 + 13 - j) % 14 = nx := by omega
    rw [ei]
    exact new
  · obtain ⟨k, rfl⟩ : ∃ k, j = k + 1 := ⟨j - 1, by omega⟩
    have ei : ((nx + 1) % 14 + 13 - (k + 1)) % 14 = (nx + 13 - k) % 14 := by omega
    have ne : (nx + 13 - k) % 14 ≠ nx := by omega
    have lt : (nx + 13 - k) % 14 < 14 := Nat.mod_lt _ (by decide)
    rw [ei]
    refine (a7 k (by omega)).mv (fun a b1 b2 => c5 a (by omega) (by omega) (by omega)) (fun i hi => d3 _ (by omega))
theorem act_inv {m1 m5 : Mem} {nx ct : Nat} {wc wm wc' wm' : Nat → Nat} {E E' : Nat → Nat → Nat} (h3 : m1 327 3 = nI n) (hr : RoAt m1 329 wm E) (hw : ∀ v, v < n → wm v = wc v ∧ wc v ≤ 99) (g : Gd n E) (a3 : nx < 14) (a6 : ct ≤ 14) (a7 : ∀ j, j < ct → Sh n m1 (81 + 15 * ((nx + 13 - j) % 14)) (fun i => m1 332 (156 * ((nx + 13 - j) % 14) + i))) (hsl : Sl n m1) (hob : Ob m1) (htx : Tx m1)
    (c1 : m5 79 1 = nI ((nx + 1) % 14)) (c2 : m5 79 2 = nI (min (ct + 1) 14)) (c3 : FoAt m5 (81 + 15 * nx) n wc E) (c4 : FoAt m5 1 n wc' E') (c5 : ∀ a, 16 ≤ a → a < 327 → a ≠ 79 → (a < 81 + 15 * nx ∨ 81 + 15 * nx + 15 ≤ a) → m5 a = m1 a)
    (d1 : m5 327 10 = nI ((nx + 1) % 14)) (d2 : m5 327 9 = nI (min (ct + 1) 14)) (d3 : ∀ j, m5 332 j = if 156 * nx ≤ j ∧ j < 156 * nx + 156 then m1 329 (j - 156 * nx) else m1 332 j) (d4 : RoAt m5 329 wm' E') (d5 : ∀ a, 327 < a → a < 336 → a ≠ 329 → a ≠ 332 → m5 a = m1 a) (d6 : ∀ j, j ≠ 9 → j ≠ 10 → m5 327 j = m1 327 j) (hw' : ∀ v, v < n → wm' v = wc' v ∧ wc' v ≤ 99) (g' : Gd n E') : Inv m5 := by
  refine ⟨n, ⟨by rw [d6 3 (by decide) (by decide)]; exact h3, wc', wm', E', c4, d4, hw', g'⟩, ?_, ?_, ?_, ?_⟩
  · refine Hi.push a3 a6 a7 c1 c2 d1 d2 ⟨wc, wm, E, c3, ⟨fun v hv => ?_, fun u v hu hv => ?_⟩, hw, g⟩ (fun a b1 b2 b3 => c5 a (by omega) (by omega) (by omega) b3) (fun j hj => by rw [d3, if_neg (by omega)])
    · show m5 332 (156 * nx + v) = _
      rw [d3, if_pos (by omega), show 156 * nx + v - 156 * nx = v by omega]; exact hr.1 v hv
    · show m5 332 (156 * nx + (12 + 12 * u + v)) = _
      rw [d3, if_pos (by omega), show 156 * nx + (12 + 12 * u + v) - 156 * nx = 12 + 12 * u + v by omega]; exact hr.2 u v hu hv
  · exact hsl.mv (fun a b1 b2 => c5 a (by omega) b2 (by omega) (by omega)) (d5 333 (by decide) (by decide) (by decide) (by decide)) (d5 334 (by decide) (by decide) (by decide) (by decide))
  · exact hob.mv (fun a b1 b2 => c5 a (by omega) (by omega) (by omega) (by omega)) (d5 335 (by decide) (by decide) (by decide) (by decide)) (d6 14 (by decide) (by decide))
  · exact htx.mv (by rw [c5 76 (by omega) (by omega) (by omega) (by omega)]) (c5 77 (by omega) (by omega) (by omega) (by omega)) (d6 1 (by decide) (by decide)) (d5 328 (by decide) (by decide) (by decide) (by decide))
theorem op_link (hG : Mn G) (I : Inv mem) (u v x : Int32) : CtI l M_X6_link G [.ref (gA G 0), .int u, .int v, .int x] mem (fun r m => CtI l M_X7_link G [.ref (gA G 327), .int u, .int v, .int x] m (fun r' m' => r' = r ∧ Inv m')) := by
  have I0 := I
  obtain ⟨n, ⟨h3, wc, wm, E, hf, hr, hw, g⟩, hhi, hsl, hob, htx⟩ := I
  have hwc : ∀ v, v < n → wc v ≤ 99 := fun v hv => (hw v hv).2
  have hwm : ∀ v, v < n → wm v ≤ 99 := fun v hv => by rw [(hw v hv).1]; exact (hw v hv).2
  have Fc := g.f hwc
  have Fm := g.f hwm
  have hn := Fc.le
  refine CtI_of (by decide) (Nat.le_of_ble_eq_true rfl) rfl (t_X6_link_0 hG _ _ _ mem ⟨_, c_linkErr (s := 16) (s_16 hG) hf Fc u v x, ?_⟩)
  rintro y m1 ⟨k1, k2⟩
  have K := Keep.o k1 (by decide) (by decide)
  refine ⟨fun z => ?_, fun z => ?_⟩
  · subst z
    rcases (id k2 : LinkErr n (gc n E) u v x 0) with ⟨-, q⟩ | ⟨i, j, ⟨hi, hj, rfl, rfl⟩, ⟨-, q⟩ | ⟨qx, ⟨-, q⟩ | ⟨nc, -⟩⟩⟩
    · exact absurd q (by decide)
    · exact absurd q (by decide)
    · exact absurd q (by decide)
    · obtain ⟨t, ht, rfl⟩ : ∃ t : Nat, t < 100 ∧ x = nI t := i_arg (by omega) (by omega)
      have t1 : 1 ≤ t := by have := qx.1; rw [i_nI (by omega)] at this; omega
      have g' := g.link hi hj nc t1 (by omega)
      obtain ⟨nx, ct, ⟨a1, a2, a3⟩, ⟨a4, a5, a6⟩, a7⟩ := K.hi hhi
      have hf1 : FoAt m1 1 n wc E := hf.out k1 (by decide)
      refine ⟨_, c_remember hG (f_1 hG) (by decide) hf1 a1 a4 a3 a6, ?_⟩
      rintro m2 ⟨e1, e2, e3, e4⟩
      have hf2 : FoAt m2 1 n wc E := ⟨by rw [e4 _ (by omega) (by omega)]; exact hf1.1, fun v hv => by rw [e4 _ (by omega) (by omega)]; exact hf1.2.1 v hv, fun u v hu hv => by rw [e4 _ (by omega) (by omega)]; exact hf1.2.2 u v hu hv⟩
      refine ⟨_, c_putEdge (f_1 hG) hf2 hn hi hj, ?_⟩
      rintro m3 ⟨e5, e6⟩
      refine ⟨_, c_edgeCount (f_1 hG) e5 hn (fun u v _ _ => by have := g'.2.2.1 u v; omega), ?_⟩
      rintro r m4 ⟨rfl, rfl⟩
      -- the model
      have mo : ∀ a, 327 ≤ a → m4 a = m1 a := fun a h => by rw [e6 a (by omega), e4 a (by omega) (by omega)]
      have hr1 : RoAt m1 329 wm E := K.ro hr
      have hr4 : RoAt m4 329 wm E := hr1.eq' (mo 329 (by omega))
      have n4 : m4 327 3 = nI n := by rw [mo 327 (by omega)]; exact K.n3 h3
      refine CtI_of (by decide) (Nat.le_of_ble_eq_true rfl) rfl (t_X7_link_0 hG _ _ _ _ ⟨_, c_mLinkErr hG (r_329 hG) hr4 Fm n4 _ _ _, ?_⟩)
      rintro y m5 ⟨p1, p2⟩
      have ey := p2.uq hn k2
      refine ⟨fun _ => ?_, fun z => absurd ey z⟩
      have q5 : ∀ a, a < 336 → m5 a = m4 a := fun a h => p1 a (by omega) (by omega)
      refine ⟨_, c_note hG (nx := nx) (ct := ct) (by rw [q5 327 (by omega), mo 327 (by omega)]; exact a2) (by rw [q5 327 (by omega), mo 327 (by omega)]; exact a5) a3 a6, ?_⟩
      rintro m6 ⟨s1, s2, s3, s4, s5⟩
      have hr6 : RoAt m6 329 wm E := hr4.eq' (by rw [s4 329 (by omega) (by omega), q5 329 (by omega)])
      refine ⟨_, c_join (r_329 hG) hr6 (by omega) (by omega), ?_⟩
      rintro m7 ⟨w1, w2⟩
      refine ⟨_, c_edgesOf (r_329 hG) w2 (g'.f hwm), ?_⟩
      rintro r m8 ⟨rfl, rfl⟩
      have cl : ∀ a, a < 327 → m8 a = m4 a := fun a h => by rw [w1 a (by omega), s4 a (by omega) (by omega), q5 a (by omega)]
      refine ⟨rfl, act_inv (m1 := m1) (K.n3 h3) hr1 hw g a3 a6 a7 (K.sl hsl) (K.ob hob) (K.tx htx) ?_ ?_ ?_ ?_ ?_ ?_ ?_ ?_ w2 ?_ ?_ hw g'⟩
      · rw [cl 79 (by omega), e6 79 (by omega)]; exact e1
      · rw [cl 79 (by omega), e6 79 (by omega)]; exact e2
      · exact ⟨by rw [cl _ (by omega), e6 _ (by omega)]; exact e3.1, fun v hv => by rw [cl _ (by omega), e6 _ (by omega)]; exact e3.2.1 v hv, fun u v hu hv => by rw [cl _ (by omega), e6 _ (by omega)]; exact e3.2.2 u v hu hv⟩
      · exact ⟨by rw [cl _ (by omega)]; exact e5.1, fun v hv => by rw [cl _ (by omega)]; exact e5.2.1 v hv, fun u v hu hv => by rw [cl _ (by omega)]; exact e5.2.2 u v hu hv⟩
      · exact fun a b1 b2 b3 b4 => by rw [cl a b2, e6 a (by omega), e4 a b3 b4]
      · rw [w1 327 (by decide)]; exact s1
      · rw [w1 327 (by decide)]; exact s2
      · intro j
        rw [w1 332 (by decide), s3 j, q5 329 (by omega), q5 332 (by omega), mo 329 (by omega), mo 332 (by omega)]
      · exact fun a b1 b2 b3 b4 => by rw [w1 a b3, s4 a (by omega) b4, q5 a b2, mo a (by omega)]
      · exact fun j b1 b2 => by rw [w1 327 (by decide), s5 j b1 b2, q5 327 (by omega), mo 327 (by omega)]
  · refine CtI_of (by decide) (Nat.le_of_ble_eq_true rfl) rfl (t_X7_link_0 hG _ _ _ _ ⟨_, c_mLinkErr hG (r_329 hG) (K.ro hr) Fm (K.n3 h3) _ _ _, ?_⟩)
    rintro y' m5 ⟨p1, p2⟩
    have ey := p2.uq hn k2
    exact ⟨fun e => absurd (ey.symm.trans e) z, fun _ => ⟨ey, I0.keep (K.tr (Keep.f p1))⟩⟩
/-- the action of an edge: cut, or another weight -/
theorem act_edge (hG : Mn G) {wc wm : Nat → Nat} {E : Nat → Nat → Nat} (h3 : mem 327 3 = nI n) (hf : FoAt mem 1 n wc E) (hr : RoAt mem 329 wm E) (hw : ∀ v, v < n → wm v = wc v ∧ wc v ≤ 99) (g : Gd n E) (hhi : Hi n mem) (hsl : Sl n mem) (hob : Ob mem) (htx : Tx mem) {i j t : Nat} (hi : i < n) (hj : j < n) (g' : Gd n (updE E i j t)) : ∃ Q : Mem → Prop, CtV l M_X2_remember G [.ref (gA G 79), .ref (gA G 1)] mem Q ∧ ∀ m, Q m → ∃ Q2 : Mem → Prop, CtV l M_X1_putEdge G [.ref (gA G 1), .int (nI i), .int (nI j), .int (nI t)] m Q2 ∧ ∀ m2, Q2 m2 → (RoAt m2 329 wm E ∧ m2 327 3 = nI n) ∧ ∃ Q3 : Mem → Prop, CtV l M_X7_note G [.ref (gA G 327)] m2 Q3 ∧ ∀ m3, Q3 m3 → RoAt m3 329 wm E ∧ ∃ Q4 : Mem → Prop, CtV l M_X7_join G [.ref (gA G 329), .int (nI i), .int (nI j), .int (nI t)] m3 Q4 ∧ ∀ m4, Q4 m4 → Inv m4 := by
  have hn : n ≤ 12 := g.1.2
  obtain ⟨nx, ct, ⟨a1, a2, a3⟩, ⟨a4, a5, a6⟩, a7⟩ := hhi
  refine ⟨_, c_remember hG (f_1 hG) (by decide) hf a1 a4 a3 a6, ?_⟩
  rintro m2 ⟨e1, e2, e3, e4⟩
  have hf2 : FoAt m2 1 n wc E := ⟨by rw [e4 _ (by omega) (by omega)]; exact hf.1, fun v hv => by rw [e4 _ (by omega) (by omega)]; exact hf.2.1 v hv, fun u v hu hv => by rw [e4 _ (by omega) (by omega)]; exact hf.2.2 u v hu hv⟩
  refine ⟨_, c_putEdge (f_1 hG) hf2 hn hi hj, ?_⟩
  rintro m4 ⟨e5, e6⟩
  have mo : ∀ a, 327 ≤ a → m4 a = mem a := fun a h => by rw [e6 a (by omega), e4 a (by omega) (by omega)]
  have hr4 : RoAt m4 329 wm E := hr.eq' (mo 329 (by omega))
  refine ⟨⟨hr4, by rw [mo 327 (by omega)]; exact h3⟩, _, c_note hG (nx := nx) (ct := ct) (by rw [mo 327 (by omega)]; exact a2) (by rw [mo 327 (by omega)]; exact a5) a3 a6, ?_⟩
  rintro m6 ⟨s1, s2, s3, s4, s5⟩
  have hr6 : RoAt m6 329 wm E := hr4.eq' (s4 329 (by omega) (by omega))
  refine ⟨hr6, _, c_join (r_329 hG) hr6 (by omega) (by omega), ?_⟩
  rintro m8 ⟨w1, w2⟩
  have cl : ∀ a, a < 327 → m8 a = m4 a := fun a h => by rw [w1 a (by omega), s4 a (by omega) (by omega)]
  refine act_inv (m1 := mem) h3 hr hw g a3 a6 a7 hsl hob htx ?_ ?_ ?_ ?_ ?_ ?_ ?_ ?_ w2 ?_ ?_ hw g'
  · rw [cl 79 (by omega), e6 79 (by omega)]; exact e1
  · rw [cl 79 (by omega), e6 79 (by omega)]; exact e2
  · exact ⟨by rw [cl _ (by omega), e6 _ (by omega)]; exact e3.1, fun v hv => by rw [cl _ (by omega), e6 _ (by omega)]; exact e3.2.1 v hv, fun u v hu hv => by rw [cl _ (by omega), e6 _ (by omega)]; exact e3.2.2 u v hu hv⟩
  · exact ⟨by rw [cl _ (by omega)]; exact e5.1, fun v hv => by rw [cl _ (by omega)]; exact e5.2.1 v hv, fun u v hu hv => by rw [cl _ (by omega)]; exact e5.2.2 u v hu hv⟩
  · exact fun a b1 b2 b3 b4 => by rw [cl a b2, e6 a (by omega), e4 a b3 b4]
  · rw [w1 327 (by decide)]; exact s1
  · rw [w1 327 (by decide)]; exact s2
  · intro j
    rw [w1 332 (by decide), s3 j, mo 329 (by omega), mo 332 (by omega)]
  · exact fun a b1 b2 b3 b4 => by rw [w1 a b3, s4 a (by omega) b4, mo a (by omega)]
  · exact fun j b1 b2 => by rw [w1 327 (by decide), s5 j b1 b2, mo 327 (by omega)]
theorem op_cut (hG : Mn G) (I : Inv mem) (u v : Int32) : CtI l M_X6_cut G [.ref (gA G 0), .int u, .int v] mem (fun r m => CtI l M_X7_cut G [.ref (gA G 327), .int u, .int v] m (fun r' m' => r' = r ∧ Inv m')) := by
  have I0 := I
  obtain ⟨n, ⟨h3, wc, wm, E, hf, hr, hw, g⟩, hhi, hsl, hob, htx⟩ := I
  have hwc : ∀ v, v < n → wc v ≤ 99 := fun v hv => (hw v hv).2
  have hwm : ∀ v, v < n → wm v ≤ 99 := fun v hv => by rw [(hw v hv).1]; exact (hw v hv).2
  have Fc := g.f hwc
  have Fm := g.f hwm
  have hn := Fc.le
  refine CtI_of (by decide) (Nat.le_of_ble_eq_true rfl) rfl (t_X6_cut_0 hG _ _ mem ⟨_, c_cutErr (f_1 hG) hf Fc u v, ?_⟩)
  rintro y m1 ⟨rfl, k2⟩
  refine ⟨fun z => ?_, fun z => ?_⟩
  · subst z
    rcases (id k2 : EdgeErr n E u v 1 0) with ⟨-, q⟩ | ⟨i, j, ⟨hi, hj, rfl, rfl⟩, ⟨-, q⟩ | ⟨qx, ⟨-, q⟩ | ⟨e0, -⟩⟩⟩
    · exact absurd q (by decide)
    · exact absurd q (by decide)
    · exact absurd q (by decide)
    · refine ⟨_, c_edgeBetween (f_1 hG) hf hn hi hj, ?_⟩
      rintro r m ⟨rfl, rfl⟩
      obtain ⟨Q1, b1, b2⟩ := act_edge (l := l) hG h3 hf hr hw g hhi hsl hob htx (t := 0) hi hj (g.cut e0)
      refine ⟨Q1, b1, fun m1 h1 => ?_⟩
      obtain ⟨Q2, b3, b4⟩ := b2 m1 h1
      refine ⟨Q2, b3, fun m2 h2 => ?_⟩
      obtain ⟨⟨r2, n2⟩, Q3, b5, b6⟩ := b4 m2 h2
      refine CtI_of (by decide) (Nat.le_of_ble_eq_true rfl) rfl (t_X7_cut_0 hG _ _ _ ⟨_, c_mEdgeErr hG (r_329 hG) r2 Fm n2 _ _ _, ?_⟩)
      rintro y m5 ⟨rfl, p2⟩
      have ey := p2.uq hn k2
      refine ⟨fun _ => ⟨Q3, b5, fun m3 h3 => ?_⟩, fun z => absurd ey z⟩
      obtain ⟨r3, Q4, b7, b8⟩ := b6 m3 h3
      refine ⟨_, c_at, ?_⟩
      rintro y m ⟨rfl, rfl⟩
      rw [i_cl (by omega), r3.2 i j (by omega) (by omega)]
      exact ⟨i_in (by omega) (by decide), Q4, b7, fun m4 h4 => ⟨rfl, b8 m4 h4⟩⟩
  · refine CtI_of (by decide) (Nat.le_of_ble_eq_true rfl) rfl (t_X7_cut_0 hG _ _ _ ⟨_, c_mEdgeErr hG (r_329 hG) hr Fm h3 _ _ _, ?_⟩)
    rintro y' m5 ⟨rfl, p2⟩
    have ey := p2.uq hn k2
    exact ⟨fun e => absurd (ey.symm.trans e) z, fun _ => ⟨ey, I0⟩⟩
theorem op_setEdgeWeight (hG : Mn G) (I : Inv mem) (u v x : Int32) : CtI l M_X6_setEdgeWeight G [.ref (gA G 0), .int u, .int v, .int x] mem (fun r m => CtI l M_X7_setEdgeWeight G [.ref (gA G 327), .int u, .int v, .int x] m (fun r' m' => r' = r ∧ Inv m')) := by
  have I0 := I
  obtain ⟨n, ⟨h3, wc, wm, E, hf, hr, hw, g⟩, hhi, hsl, hob, htx⟩ := I
  have hwc : ∀ v, v < n → wc v ≤ 99 := fun v hv => (hw v hv).2
  have hwm : ∀ v, v < n → wm v ≤ 99 := fun v hv => by rw [(hw v hv).1]; exact (hw v hv).2
  have Fc := g.f hwc
  have Fm := g.f hwm
  have hn := Fc.le
  have bad : ∀ r : Int32, ¬ r = 0 → EdgeErr n E u v x r → CtI l M_X7_setEdgeWeight G [.ref (gA G 327), .int u, .int v, .int x] mem (fun r' m' => r' = r ∧ Inv m') := by
    intro r hr0 k2
    refine CtI_of (by decide) (Nat.le_of_ble_eq_true rfl) rfl (t_X7_setEdgeWeight_0 hG _ _ _ _ ⟨_, c_mEdgeErr hG (r_329 hG) hr Fm h3 _ _ _, ?_⟩)
    rintro y' m5 ⟨rfl, p2⟩
    have ey := p2.uq hn k2
    exact ⟨fun e => absurd (ey.symm.trans e) hr0, fun _ => ⟨ey, I0⟩⟩
  refine CtI_of (by decide) (Nat.le_of_ble_eq_true rfl) rfl (t_X6_setEdgeWeight_0 hG _ _ _ mem ⟨_, c_hasVertices (f_1 hG) hf hn u v, ?_⟩)
  rintro r m ⟨rfl, rfl⟩
  by_cases q : Vx n u ∧ Vx n v
  · rw [if_pos q]
    obtain ⟨i, hi, rfl⟩ := q.1.ex
    obtain ⟨j, hj, rfl⟩ := q.2.ex
    have be := g.2.2.1 i j
    refine pos_ ⟨fun z => bad _ (by decide) (Or.inr ⟨i, j, ⟨hi, hj, rfl, rfl⟩, Or.inl ⟨fun y => ?_, rfl⟩⟩), fun z => ⟨fun z2 => ⟨_, c_hasEdge (f_1 hG) hf hn hi hj (by omega), ?_⟩, fun z2 => bad _ (by decide) (Or.inr ⟨i, j, ⟨hi, hj, rfl, rfl⟩, Or.inl ⟨fun y => ?_, rfl⟩⟩)⟩⟩
    · rw [i_lt, i_1] at z; omega
    · rintro r m ⟨rfl, rfl⟩
      rw [i_lt, i_1] at z
      rw [i_le, i_99] at z2
      have qx : 1 ≤ x.toInt ∧ x.toInt ≤ 99 := by omega
      by_cases e0 : 0 < E i j
      · rw [if_pos e0]
        obtain ⟨t, ht, rfl⟩ : ∃ t : Nat, t < 100 ∧ x = nI t := i_arg (by omega) (by omega)
        have t1 : 1 ≤ t := by have := qx.1; rw [i_nI (by omega)] at this; omega
        refine pos_ ⟨_, c_edgeBetween (f_1 hG) hf hn hi hj, ?_⟩
        rintro r m ⟨rfl, rfl⟩
        obtain ⟨Q1, b1, b2⟩ := act_edge (l := l) hG h3 hf hr hw g hhi hsl hob htx (t := t) hi hj (g.rew e0 t1 (by omega))
        refine ⟨Q1, b1, fun m1 h1 => ?_⟩
        obtain ⟨Q2, b3, b4⟩ := b2 m1 h1
        refine ⟨Q2, b3, fun m2 h2 => ?_⟩
        obtain ⟨⟨r2, n2⟩, Q3, b5, b6⟩ := b4 m2 h2
        refine CtI_of (by decide) (Nat.le_of_ble_eq_true rfl) rfl (t_X7_setEdgeWeight_0 hG _ _ _ _ ⟨_, c_mEdgeErr hG (r_329 hG) r2 Fm n2 _ _ _, ?_⟩)
        rintro y m5 ⟨rfl, p2⟩
        have ey := (p2.ok qx (by omega) (by omega) hn).mpr ⟨hi, hj, e0⟩
        refine ⟨fun _ => ⟨Q3, b5, fun m3 h3 => ?_⟩, fun z => absurd ey z⟩
        obtain ⟨r3, Q4, b7, b8⟩ := b6 m3 h3
        refine ⟨_, c_at, ?_⟩
        rintro y m ⟨rfl, rfl⟩
        rw [i_cl (by omega), r3.2 i j (by omega) (by omega)]
        exact ⟨i_in (by omega) (by decide), Q4, b7, fun m4 h4 => ⟨rfl, b8 m4 h4⟩⟩
      · rw [if_neg e0]
        exact neg' (bad _ (by decide) (Or.inr ⟨i, j, ⟨hi, hj, rfl, rfl⟩, Or.inr ⟨qx, Or.inl ⟨by omega, rfl⟩⟩⟩))
    · rw [i_le, i_99] at z2; omega
  · rw [if_neg q]
    exact neg' (bad _ (by decide) (Or.inl ⟨q, rfl⟩))
theorem op_setVertexWeight (hG : Mn G) (I : Inv mem) (v x : Int32) : CtI l M_X6_setVertexWeight G [.ref (gA G 0), .int v, .int x] mem (fun r m => CtI l M_X7_setVertexWeight G [.ref (gA G 327), .int v, .int x] m (fun r' m' => r' = r ∧ Inv m')) := by
  have I0 := I
  obtain ⟨n, ⟨h3, wc, wm, E, hf, (hr : RoAt mem 329 wm E), hw, g⟩, hhi, hsl, hob, htx⟩ := I
  have n1 := g.1.1
  have hn := g.1.2
  refine CtI_of (by decide) (Nat.le_of_ble_eq_true rfl) rfl (t_X6_setVertexWeight_0 hG _ _ mem ⟨_, c_hasVertex (f_1 hG) hf hn v, ?_⟩)
  rintro r m ⟨rfl, rfl⟩
  by_cases q : Vx n v
  · rw [if_pos q]
    obtain ⟨i, hi, rfl⟩ := q.ex
    have bad : ¬ (0 ≤ x.toInt ∧ x.toInt ≤ 99) → CtI l M_X7_setVertexWeight G [.ref (gA G 327), .int (nI i), .int x] m (fun r' m' => r' = -2 ∧ Inv m') := by
      intro nx
      refine CtI_of (by decide) (Nat.le_of_ble_eq_true rfl) rfl (t_X7_setVertexWeight_0 hG _ _ _ ⟨_, c_isVertex' hG h3 hn hi, ?_⟩)
      rintro y m ⟨rfl, rfl⟩
      refine pos_ ⟨_, c_in' x 0 99 i_64_0 i_64_99, ?_⟩
      rintro y m ⟨rfl, rfl⟩
      rw [if_neg nx]
      exact neg' ⟨rfl, I0⟩
    refine pos_ ⟨fun z => bad (fun y => ?_), fun z => ⟨fun z2 => ⟨_, c_weightOf (f_1 hG) hf hn hi, ?_⟩, fun z2 => bad (fun y => ?_)⟩⟩
    · rw [i_lt, i_0] at z; omega
    · rintro r m ⟨rfl, rfl⟩
      rw [i_lt, i_0] at z
      rw [i_le, i_99] at z2
      have qx : 0 ≤ x.toInt ∧ x.toInt ≤ 99 := by omega
      obtain ⟨t, ht, rfl⟩ : ∃ t : Nat, t < 100 ∧ x = nI t := i_arg (by omega) (by omega)
      obtain ⟨nx, ct, ⟨a1, a2, a3⟩, ⟨a4, a5, a6⟩, a7⟩ := hhi
      refine ⟨_, c_remember hG (f_1 hG) (by decide) hf a1 a4 a3 a6, ?_⟩
      rintro m2 ⟨e1, e2, e3, e4⟩
      have hf2 : FoAt m2 1 n wc E := ⟨by rw [e4 _ (by omega) (by omega)]; exact hf.1, fun v hv => by rw [e4 _ (by omega) (by omega)]; exact hf.2.1 v hv, fun u v hu hv => by rw [e4 _ (by omega) (by omega)]; exact hf.2.2 u v hu hv⟩
      refine ⟨_, c_putWeight (f_1 hG) hf2 hn hi, ?_⟩
      rintro m4 ⟨e5, e6⟩
      have mo : ∀ a, 327 ≤ a → m4 a = m a := fun a h => by rw [e6 a (by omega), e4 a (by omega) (by omega)]
      have hr4 : RoAt m4 329 wm E := hr.eq' (mo 329 (by omega))
      refine CtI_of (by decide) (Nat.le_of_ble_eq_true rfl) rfl (t_X7_setVertexWeight_0 hG _ _ _ ⟨_, c_isVertex' hG (n := n) (by rw [mo 327 (by omega)]; exact h3) hn hi, ?_⟩)
      rintro y m5 ⟨rfl, rfl⟩
      refine pos_ ⟨_, c_in' (nI t) 0 99 i_64_0 i_64_99, ?_⟩
      rintro y m5 ⟨rfl, rfl⟩
      rw [if_pos qx]
      refine pos_ ⟨_, c_note hG (nx := nx) (ct := ct) (by rw [mo 327 (by omega)]; exact a2) (by rw [mo 327 (by omega)]; exact a5) a3 a6, ?_⟩
      rintro m6 ⟨s1, s2, s3, s4, s5⟩
      have hr6 : RoAt m6 329 wm E := hr4.eq' (s4 329 (by omega) (by omega))
      rw [i_cl (by omega)]
      refine ⟨i_in (by omega) (by decide), i_in (by omega) (by decide), by rw [hr6.1 i (by omega), (hw i hi).1], ?_⟩
      have w2 : RoAt (wr m6 329 i (nI t)) 329 (updW wm i t) E := by
        refine ⟨fun v hv => ?_, fun u v hu hv => ?_⟩
        · rw [wr_at]
          unfold updW
          by_cases e : v = i
          · rw [if_pos ⟨rfl, e⟩, if_pos e]
          · rw [if_neg (fun z => e z.2), if_neg e]; exact hr6.1 v hv
        · rw [wr_at, if_neg (by omega)]; exact hr6.2 u v hu hv
      have hw' : ∀ v, v < n → updW wm i t v = updW wc i t v ∧ updW wc i t v ≤ 99 := by
        intro v hv
        unfold updW
        by_cases e : v = i
        · rw [if_pos e, if_pos e]; exact ⟨rfl, by omega⟩
        · rw [if_neg e, if_neg e]; exact hw v hv
      have cl : ∀ a, a < 327 → wr m6 329 i (nI t) a = m5 a := fun a h => by rw [wr_n (by omega), s4 a (by omega) (by omega)]
      refine act_inv (m1 := m) h3 hr hw g a3 a6 a7 hsl hob htx ?_ ?_ ?_ ?_ ?_ ?_ ?_ ?_ w2 ?_ ?_ hw' g
      · rw [cl 79 (by omega), e6 79 (by omega)]; exact e1
      · rw [cl 79 (by omega), e6 79 (by omega)]; exact e2
      · exact ⟨by rw [cl _ (by omega), e6 _ (by omega)]; exact e3.1, fun v hv => by rw [cl _ (by omega), e6 _ (by omega)]; exact e3.2.1 v hv, fun u v hu hv => by rw [cl _ (by omega), e6 _ (by omega)]; exact e3.2.2 u v hu hv⟩
      · exact ⟨by rw [cl _ (by omega)]; exact e5.1, fun v hv => by rw [cl _ (by omega)]; exact e5.2.1 v hv, fun u v hu hv => by rw [cl _ (by omega)]; exact e5.2.2 u v hu hv⟩
      · exact fun a b1 b2 b3 b4 => by rw [cl a b2, e6 a (by omega), e4 a b3 b4]
      · rw [wr_n (by decide)]; exact s1
      · rw [wr_n (by decide)]; exact s2
      · intro j
        rw [wr_n (by decide), s3 j, mo 329 (by omega), mo 332 (by omega)]
      · exact fun a b1 b2 b3 b4 => by rw [wr_n b3, s4 a (by omega) b4, mo a (by omega)]
      · exact fun j b1 b2 => by rw [wr_n (by decide), s5 j b1 b2, mo 327 (by omega)]
    · rw [i_le, i_99] at z2; omega
  · rw [if_neg q]
    refine neg' ?_
    refine CtI_of (by decide) (Nat.le_of_ble_eq_true rfl) rfl (t_X7_setVertexWeight_0 hG _ _ _ ⟨_, c_isVertex hG h3 n1 hn v, ?_⟩)
    rintro y m ⟨rfl, rfl⟩
    rw [if_neg q]
    exact neg' ⟨rfl, I0⟩
theorem op_undo (hG : Mn G) (I : Inv mem) : CtI l M_X6_undo G [.ref (gA G 0)] mem (fun r m => CtI l M_X7_undo G [.ref (gA G 327)] m (fun r' m' => r' = r ∧ Inv m')) := by
  have I0 := I
  obtain ⟨n, ⟨h3, -⟩, ⟨nx, ct, ⟨a1, a2, a3⟩, ⟨a4, a5, a6⟩, a7⟩, hsl, hob, htx⟩ := I
  by_cases c0 : ct = 0
  · subst c0
    refine CtI_of (by decide) (Nat.le_of_ble_eq_true rfl) rfl (t_X6_undo_0 hG mem ⟨_, c_takeBack0 hG (f_1 hG) a4, ?_⟩)
    rintro r m ⟨rfl, rfl⟩
    exact neg_ ((c_undo0 hG a5).mono (by rintro r m' ⟨rfl, rfl⟩; exact ⟨rfl, I0⟩))
  · obtain ⟨wc, wm, E, b1, ⟨b2, b3⟩, b4, b5⟩ := a7 0 (by omega)
    have by14 : (nx + 13) % 14 < 14 := Nat.mod_lt _ (by decide)
    refine CtI_of (by decide) (Nat.le_of_ble_eq_true rfl) rfl (t_X6_undo_0 hG mem ⟨_, c_takeBack hG (f_1 hG) (by decide) a1 a4 a3 (by omega) a6 b1, ?_⟩)
    rintro r m1 ⟨rfl, e1, e2, e3, e4⟩
    refine pos' ⟨fun r m => m = m1 ∧ r = m1 79 2, c_hsize hG, ?_⟩
    rintro r m ⟨rfl, rfl⟩
    have mo : ∀ a, 16 ≤ a → a ≠ 79 → m a = mem a := fun a h h2 => e4 a h2 (by omega)
    refine (c_undo hG (nx := nx) (ct := ct) (by rw [mo 327 (by omega) (by omega)]; exact a2) (by rw [mo 327 (by omega) (by omega)]; exact a5) a3 (by omega) a6).mono ?_
    rintro r' m' ⟨rfl, s1, s2, s3, s4, s5⟩
    have cl : ∀ a, a < 327 → m' a = m a := fun a h => s4 a (by omega) (by omega)
    refine ⟨e2.symm, n, ⟨by rw [s5 3 (by decide) (by decide), mo 327 (by omega) (by omega)]; exact h3, wc, wm, E, ⟨by rw [cl _ (by omega)]; exact e3.1, fun v hv => by rw [cl _ (by omega)]; exact e3.2.1 v hv, fun u v hu hv => by rw [cl _ (by omega)]; exact e3.2.2 u v hu hv⟩, ⟨fun v hv => ?_, fun u v hu hv => ?_⟩, b4, b5⟩, ⟨(nx + 13) % 14, ct - 1, ⟨by rw [cl 79 (by omega)]; exact e1, s1, by14⟩, ⟨by rw [cl 79 (by omega)]; exact e2, s2, by omega⟩, fun j hj => ?_⟩, ?_, ?_, ?_⟩
    · rw [s3 v (by omega), mo 332 (by omega) (by omega)]; exact b2 v hv
    · rw [s3 _ (by omega), mo 332 (by omega) (by omega)]; exact b3 u v hu hv
    · have := a7 (j + 1) (by omega)
      have ei : ((nx + 13) % 14 + 13 - j) % 14 = (nx + 13 - (j + 1)) % 14 := by omega
      have lt : (nx + 13 - (j + 1)) % 14 < 14 := Nat.mod_lt _ (by decide)
      rw [ei]
      exact this.mv (fun a q1 q2 => by rw [cl a (by omega), mo a (by omega) (by omega)]) (fun k _ => by rw [s4 332 (by omega) (by omega), mo 332 (by omega) (by omega)])
    · exact hsl.mv (fun a q1 q2 => by rw [cl a (by omega), mo a (by omega) (by omega)]) (by rw [s4 333 (by omega) (by omega), mo 333 (by omega) (by omega)]) (by rw [s4 334 (by omega) (by omega), mo 334 (by omega) (by omega)])
    · exact hob.mv (fun a q1 q2 => by rw [cl a (by omega), mo a (by omega) (by omega)]) (by rw [s4 335 (by omega) (by omega), mo 335 (by omega) (by omega)]) (by rw [s5 14 (by decide) (by decide), mo 327 (by omega) (by omega)])
    · exact htx.mv (by rw [cl 76 (by omega), mo 76 (by omega) (by omega)]) (by rw [cl 77 (by omega), mo 77 (by omega) (by omega)]) (by rw [s5 1 (by decide) (by decide), mo 327 (by omega) (by omega)]) (by rw [s4 328 (by omega) (by omega), mo 328 (by omega) (by omega)])
end OP
