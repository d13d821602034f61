/-! queries of one vertex: class and model answer alike -/
section OP
variable {l : Launch} {G : Gx} {mem : Mem}
theorem op_eccentricity (hG : Mn G) (I : Inv mem) (v : Int32) : CtI l M_X6_eccentricity G [.ref (gA G 0), .int v] mem (fun r m => CtI l M_X7_eccentricity G [.ref (gA G 327), .int v] m (fun r' m' => r' = r ∧ Inv m')) := by
  obtain ⟨n, wc, wm, E, n1, hn, h3, hf, hw, g, hr⟩ := I.ex
  have Fc := g.f (fun v hv => (hw v hv).2)
  have Fm := g.f (w := wm) (fun v hv => by rw [(hw v hv).1]; exact (hw v hv).2)
  have hww : ∀ v, v < n → wm v = wc v := fun v hv => (hw v hv).1
  refine CtI_of (by decide) (Nat.le_of_ble_eq_true rfl) rfl (t_X6_eccentricity_0 hG _ mem ⟨_, c_hasVertex (f_1 hG) hf hn v, ?_⟩)
  rintro r m ⟨rfl, rfl⟩
  by_cases q : Vx n v
  · rw [if_pos q]
    obtain ⟨k, hk, rfl⟩ := q.ex
    have pos : ∀ {A B : Prop}, B → (¬ (1 : Int32) = 0 → B) ∧ ((1 : Int32) = 0 → A) := fun b => ⟨fun _ => b, fun z => absurd z (by decide)⟩
    have pos' : ∀ {A B : Prop}, B → ((1 : Int32) = 0 → A) ∧ (¬ (1 : Int32) = 0 → B) := fun b => ⟨fun z => absurd z (by decide), fun _ => b⟩
    refine pos ?_
    refine ⟨_, c_measure (s_16 hG) hf Fc, ?_⟩
    rintro m1 ⟨k1, k2⟩
    have hf1 := hf.out k2 (by decide)
    refine ⟨_, c_greatestFrom (s_16 hG) k1 Fc hk, ?_⟩
    rintro r m3 ⟨rfl, rfl⟩
    have K := Keep.o k2 (by decide) (by decide)
    refine CtI_of (by decide) (Nat.le_of_ble_eq_true rfl) rfl (t_X7_eccentricity_0 hG _ _ ⟨_, c_isVertex' hG (K.n3 h3) hn hk, ?_⟩)
    rintro r m2 ⟨rfl, rfl⟩
    refine pos' ?_
    refine ⟨_, c_eccOf hG (r_329 hG) (K.ro hr) Fm (K.n3 h3) hk, ?_⟩
    rintro x m4 ⟨a1, rfl⟩
    exact ⟨rfl, I.keep (K.tr (Keep.f a1))⟩
  · rw [if_neg q]
    refine ⟨fun z => absurd rfl z, fun _ => ?_⟩
    refine CtI_of (by decide) (Nat.le_of_ble_eq_true rfl) rfl (t_X7_eccentricity_0 hG _ _ ⟨_, c_isVertex hG h3 n1 hn v, ?_⟩)
    rintro r m ⟨rfl, rfl⟩
    rw [if_neg q]
    exact ⟨fun _ => ⟨rfl, I⟩, fun z => absurd rfl z⟩
theorem op_diameter (hG : Mn G) (I : Inv mem) (v : Int32) : CtI l M_X6_diameter G [.ref (gA G 0), .int v] mem (fun r m => CtI l M_X7_diameter G [.ref (gA G 327), .int v] m (fun r' m' => r' = r ∧ Inv m')) := by
  obtain ⟨n, wc, wm, E, n1, hn, h3, hf, hw, g, hr⟩ := I.ex
  have Fc := g.f (fun v hv => (hw v hv).2)
  have Fm := g.f (w := wm) (fun v hv => by rw [(hw v hv).1]; exact (hw v hv).2)
  have hww : ∀ v, v < n → wm v = wc v := fun v hv => (hw v hv).1
  refine CtI_of (by decide) (Nat.le_of_ble_eq_true rfl) rfl (t_X6_diameter_0 hG _ mem ⟨_, c_hasVertex (f_1 hG) hf hn v, ?_⟩)
  rintro r m ⟨rfl, rfl⟩
  by_cases q : Vx n v
  · rw [if_pos q]
    obtain ⟨k, hk, rfl⟩ := q.ex
    have pos : ∀ {A B : Prop}, B → (¬ (1 : Int32) = 0 → B) ∧ ((1 : Int32) = 0 → A) := fun b => ⟨fun _ => b, fun z => absurd z (by decide)⟩
    have pos' : ∀ {A B : Prop}, B → ((1 : Int32) = 0 → A) ∧ (¬ (1 : Int32) = 0 → B) := fun b => ⟨fun z => absurd z (by decide), fun _ => b⟩
    refine pos ?_
    refine ⟨_, c_measure (s_16 hG) hf Fc, ?_⟩
    rintro m1 ⟨k1, k2⟩
    have hf1 := hf.out k2 (by decide)
    refine ⟨_, c_widthAround (s_16 hG) k1 Fc hk, ?_⟩
    rintro r m3 ⟨rfl, rfl⟩
    have K := Keep.o k2 (by decide) (by decide)
    refine CtI_of (by decide) (Nat.le_of_ble_eq_true rfl) rfl (t_X7_diameter_0 hG _ _ ⟨_, c_isVertex' hG (K.n3 h3) hn hk, ?_⟩)
    rintro r m2 ⟨rfl, rfl⟩
    refine pos' ?_
    refine ⟨_, c_diamOf hG (r_329 hG) (by decide) (K.ro hr) Fm (K.n3 h3) hk, ?_⟩
    rintro x m4 ⟨a1, rfl⟩
    exact ⟨rfl, I.keep (K.tr (Keep.F a1))⟩
  · rw [if_neg q]
    refine ⟨fun z => absurd rfl z, fun _ => ?_⟩
    refine CtI_of (by decide) (Nat.le_of_ble_eq_true rfl) rfl (t_X7_diameter_0 hG _ _ ⟨_, c_isVertex hG h3 n1 hn v, ?_⟩)
    rintro r m ⟨rfl, rfl⟩
    rw [if_neg q]
    exact ⟨fun _ => ⟨rfl, I⟩, fun z => absurd rfl z⟩
theorem op_centre (hG : Mn G) (I : Inv mem) (v : Int32) : CtI l M_X6_centre G [.ref (gA G 0), .int v] mem (fun r m => CtI l M_X7_centre G [.ref (gA G 327), .int v] m (fun r' m' => r' = r ∧ Inv m')) := by
  obtain ⟨n, wc, wm, E, n1, hn, h3, hf, hw, g, hr⟩ := I.ex
  have Fc := g.f (fun v hv => (hw v hv).2)
  have Fm := g.f (w := wm) (fun v hv => by rw [(hw v hv).1]; exact (hw v hv).2)
  have hww : ∀ v, v < n → wm v = wc v := fun v hv => (hw v hv).1
  refine CtI_of (by decide) (Nat.le_of_ble_eq_true rfl) rfl (t_X6_centre_0 hG _ mem ⟨_, c_hasVertex (f_1 hG) hf hn v, ?_⟩)
  rintro r m ⟨rfl, rfl⟩
  by_cases q : Vx n v
  · rw [if_pos q]
    obtain ⟨k, hk, rfl⟩ := q.ex
    have pos : ∀ {A B : Prop}, B → (¬ (1 : Int32) = 0 → B) ∧ ((1 : Int32) = 0 → A) := fun b => ⟨fun _ => b, fun z => absurd z (by decide)⟩
    have pos' : ∀ {A B : Prop}, B → ((1 : Int32) = 0 → A) ∧ (¬ (1 : Int32) = 0 → B) := fun b => ⟨fun z => absurd z (by decide), fun _ => b⟩
    refine pos ?_
    refine ⟨_, c_measure (s_16 hG) hf Fc, ?_⟩
    rintro m1 ⟨k1, k2⟩
    have hf1 := hf.out k2 (by decide)
    refine ⟨_, c_middleOf (s_16 hG) k1 Fc hk, ?_⟩
    rintro r m3 ⟨rfl, p, rfl, hp⟩
    have K := Keep.o k2 (by decide) (by decide)
    refine CtI_of (by decide) (Nat.le_of_ble_eq_true rfl) rfl (t_X7_centre_0 hG _ _ ⟨_, c_isVertex' hG (K.n3 h3) hn hk, ?_⟩)
    rintro r m2 ⟨rfl, rfl⟩
    refine pos' ?_
    refine ⟨_, c_leastOf hG (r_329 hG) (by decide) (K.ro hr) Fm (K.n3 h3) hk 0, ?_⟩
    rintro x m4 ⟨a1, p2, rfl, hp2, -⟩
    exact ⟨by rw [(hp2 rfl).uq hp], I.keep (K.tr (Keep.F a1))⟩
  · rw [if_neg q]
    refine ⟨fun z => absurd rfl z, fun _ => ?_⟩
    refine CtI_of (by decide) (Nat.le_of_ble_eq_true rfl) rfl (t_X7_centre_0 hG _ _ ⟨_, c_isVertex hG h3 n1 hn v, ?_⟩)
    rintro r m ⟨rfl, rfl⟩
    rw [if_neg q]
    exact ⟨fun _ => ⟨rfl, I⟩, fun z => absurd rfl z⟩
theorem op_median (hG : Mn G) (I : Inv mem) (v : Int32) : CtI l M_X6_median G [.ref (gA G 0), .int v] mem (fun r m => CtI l M_X7_median G [.ref (gA G 327), .int v] m (fun r' m' => r' = r ∧ Inv m')) := by
  obtain ⟨n, wc, wm, E, n1, hn, h3, hf, hw, g, hr⟩ := I.ex
  have Fc := g.f (fun v hv => (hw v hv).2)
  have Fm := g.f (w := wm) (fun v hv => by rw [(hw v hv).1]; exact (hw v hv).2)
  have hww : ∀ v, v < n → wm v = wc v := fun v hv => (hw v hv).1
  refine CtI_of (by decide) (Nat.le_of_ble_eq_true rfl) rfl (t_X6_median_0 hG _ mem ⟨_, c_hasVertex (f_1 hG) hf hn v, ?_⟩)
  rintro r m ⟨rfl, rfl⟩
  by_cases q : Vx n v
  · rw [if_pos q]
    obtain ⟨k, hk, rfl⟩ := q.ex
    have pos : ∀ {A B : Prop}, B → (¬ (1 : Int32) = 0 → B) ∧ ((1 : Int32) = 0 → A) := fun b => ⟨fun _ => b, fun z => absurd z (by decide)⟩
    have pos' : ∀ {A B : Prop}, B → ((1 : Int32) = 0 → A) ∧ (¬ (1 : Int32) = 0 → B) := fun b => ⟨fun z => absurd z (by decide), fun _ => b⟩
    refine pos ?_
    refine ⟨_, c_measure (s_16 hG) hf Fc, ?_⟩
    rintro m1 ⟨k1, k2⟩
    have hf1 := hf.out k2 (by decide)
    refine ⟨_, c_cheapestOf (s_16 hG) k1 hf1 Fc hk, ?_⟩
    rintro r m3 ⟨rfl, p, rfl, hp⟩
    have K := Keep.o k2 (by decide) (by decide)
    refine CtI_of (by decide) (Nat.le_of_ble_eq_true rfl) rfl (t_X7_median_0 hG _ _ ⟨_, c_isVertex' hG (K.n3 h3) hn hk, ?_⟩)
    rintro r m2 ⟨rfl, rfl⟩
    refine pos' ?_
    refine ⟨_, c_leastOf hG (r_329 hG) (by decide) (K.ro hr) Fm (K.n3 h3) hk 1, ?_⟩
    rintro x m4 ⟨a1, p2, rfl, -, hp2⟩
    have hp2 := hp2 (by decide)
    rw [Cst_w hww] at hp2
    exact ⟨by rw [hp2.uq hp], I.keep (K.tr (Keep.F a1))⟩
  · rw [if_neg q]
    refine ⟨fun z => absurd rfl z, fun _ => ?_⟩
    refine CtI_of (by decide) (Nat.le_of_ble_eq_true rfl) rfl (t_X7_median_0 hG _ _ ⟨_, c_isVertex hG h3 n1 hn v, ?_⟩)
    rintro r m ⟨rfl, rfl⟩
    rw [if_neg q]
    exact ⟨fun _ => ⟨rfl, I⟩, fun z => absurd rfl z⟩
theorem op_cost (hG : Mn G) (I : Inv mem) (v : Int32) : CtI l M_X6_cost G [.ref (gA G 0), .int v] mem (fun r m => CtI l M_X7_cost G [.ref (gA G 327), .int v] m (fun r' m' => r' = r ∧ Inv m')) := by
  obtain ⟨n, wc, wm, E, n1, hn, h3, hf, hw, g, hr⟩ := I.ex
  have Fc := g.f (fun v hv => (hw v hv).2)
  have Fm := g.f (w := wm) (fun v hv => by rw [(hw v hv).1]; exact (hw v hv).2)
  have hww : ∀ v, v < n → wm v = wc v := fun v hv => (hw v hv).1
  refine CtI_of (by decide) (Nat.le_of_ble_eq_true rfl) rfl (t_X6_cost_0 hG _ mem ⟨_, c_hasVertex (f_1 hG) hf hn v, ?_⟩)
  rintro r m ⟨rfl, rfl⟩
  by_cases q : Vx n v
  · rw [if_pos q]
    obtain ⟨k, hk, rfl⟩ := q.ex
    have pos : ∀ {A B : Prop}, B → (¬ (1 : Int32) = 0 → B) ∧ ((1 : Int32) = 0 → A) := fun b => ⟨fun _ => b, fun z => absurd z (by decide)⟩
    have pos' : ∀ {A B : Prop}, B → ((1 : Int32) = 0 → A) ∧ (¬ (1 : Int32) = 0 → B) := fun b => ⟨fun z => absurd z (by decide), fun _ => b⟩
    refine pos ?_
    refine ⟨_, c_measure (s_16 hG) hf Fc, ?_⟩
    rintro m1 ⟨k1, k2⟩
    have hf1 := hf.out k2 (by decide)
    refine ⟨_, c_priceOf (s_16 hG) k1 hf1 Fc hk, ?_⟩
    rintro r m3 ⟨rfl, rfl⟩
    have K := Keep.o k2 (by decide) (by decide)
    refine CtI_of (by decide) (Nat.le_of_ble_eq_true rfl) rfl (t_X7_cost_0 hG _ _ ⟨_, c_isVertex' hG (K.n3 h3) hn hk, ?_⟩)
    rintro r m2 ⟨rfl, rfl⟩
    refine pos' ?_
    refine ⟨_, c_costOf hG (r_329 hG) (by decide) (K.ro hr) Fm (K.n3 h3) hk, ?_⟩
    rintro x m4 ⟨a1, rfl⟩
    exact ⟨by rw [Cst_w hww], I.keep (K.tr (Keep.f a1))⟩
  · rw [if_neg q]
    refine ⟨fun z => absurd rfl z, fun _ => ?_⟩
    refine CtI_of (by decide) (Nat.le_of_ble_eq_true rfl) rfl (t_X7_cost_0 hG _ _ ⟨_, c_isVertex hG h3 n1 hn v, ?_⟩)
    rintro r m ⟨rfl, rfl⟩
    rw [if_neg q]
    exact ⟨fun _ => ⟨rfl, I⟩, fun z => absurd rfl z⟩
theorem op_treeOf (hG : Mn G) (I : Inv mem) (v : Int32) : CtI l M_X6_treeOf G [.ref (gA G 0), .int v] mem (fun r m => CtI l M_X7_treeOf G [.ref (gA G 327), .int v] m (fun r' m' => r' = r ∧ Inv m')) := by
  obtain ⟨n, wc, wm, E, n1, hn, h3, hf, hw, g, hr⟩ := I.ex
  have Fc := g.f (fun v hv => (hw v hv).2)
  have Fm := g.f (w := wm) (fun v hv => by rw [(hw v hv).1]; exact (hw v hv).2)
  have hww : ∀ v, v < n → wm v = wc v := fun v hv => (hw v hv).1
  refine CtI_of (by decide) (Nat.le_of_ble_eq_true rfl) rfl (t_X6_treeOf_0 hG _ mem ⟨_, c_hasVertex (f_1 hG) hf hn v, ?_⟩)
  rintro r m ⟨rfl, rfl⟩
  by_cases q : Vx n v
  · rw [if_pos q]
    obtain ⟨k, hk, rfl⟩ := q.ex
    have pos : ∀ {A B : Prop}, B → (¬ (1 : Int32) = 0 → B) ∧ ((1 : Int32) = 0 → A) := fun b => ⟨fun _ => b, fun z => absurd z (by decide)⟩
    have pos' : ∀ {A B : Prop}, B → ((1 : Int32) = 0 → A) ∧ (¬ (1 : Int32) = 0 → B) := fun b => ⟨fun z => absurd z (by decide), fun _ => b⟩
    refine pos ?_
    refine ⟨_, c_measure (s_16 hG) hf Fc, ?_⟩
    rintro m1 ⟨k1, k2⟩
    have hf1 := hf.out k2 (by decide)
    refine ⟨_, c_smallestJoined (s_16 hG) k1 Fc hk, ?_⟩
    rintro r m3 ⟨rfl, p, p1, rfl, p2, p3⟩
    have K := Keep.o k2 (by decide) (by decide)
    refine (c_treeOf hG (r_329 hG) (K.ro hr) Fm (K.n3 h3) hk).mono ?_
    rintro x m4 ⟨a1, p', b1, rfl, b2, b3⟩
    refine ⟨?_, I.keep (K.tr (Keep.f a1))⟩
    rcases Nat.lt_trichotomy p p' with z | z | z
    · exact absurd p2 (b3 p z)
    · rw [z]
    · exact absurd b2 (p3 p' z)
  · rw [if_neg q]
    refine ⟨fun z => absurd rfl z, fun _ => ?_⟩
    refine CtI_of (by decide) (Nat.le_of_ble_eq_true rfl) rfl (t_X7_treeOf_0 hG _ _ ⟨_, c_isVertex hG h3 n1 hn v, ?_⟩)
    rintro r m ⟨rfl, rfl⟩
    rw [if_neg q]
    exact ⟨fun z => absurd rfl z, fun _ => ⟨rfl, I⟩⟩
theorem op_balancedCut (hG : Mn G) (I : Inv mem) (v : Int32) : CtI l M_X6_balancedCut G [.ref (gA G 0), .int v] mem (fun r m => CtI l M_X7_balancedCut G [.ref (gA G 327), .int v] m (fun r' m' => r' = r ∧ Inv m')) := by
  obtain ⟨n, wc, wm, E, n1, hn, h3, hf, hw, g, hr⟩ := I.ex
  have Fc := g.f (fun v hv => (hw v hv).2)
  have Fm := g.f (w := wm) (fun v hv => by rw [(hw v hv).1]; exact (hw v hv).2)
  have hww : ∀ v, v < n → wm v = wc v := fun v hv => (hw v hv).1
  refine CtI_of (by decide) (Nat.le_of_ble_eq_true rfl) rfl (t_X6_balancedCut_0 hG _ mem ⟨_, c_hasVertex (f_1 hG) hf hn v, ?_⟩)
  rintro r m ⟨rfl, rfl⟩
  by_cases q : Vx n v
  · rw [if_pos q]
    obtain ⟨k, hk, rfl⟩ := q.ex
    have pos : ∀ {A B : Prop}, B → (¬ (1 : Int32) = 0 → B) ∧ ((1 : Int32) = 0 → A) := fun b => ⟨fun _ => b, fun z => absurd z (by decide)⟩
    have pos' : ∀ {A B : Prop}, B → ((1 : Int32) = 0 → A) ∧ (¬ (1 : Int32) = 0 → B) := fun b => ⟨fun z => absurd z (by decide), fun _ => b⟩
    refine pos ?_
    refine ⟨_, c_measure (s_16 hG) hf Fc, ?_⟩
    rintro m1 ⟨k1, k2⟩
    have hf1 := hf.out k2 (by decide)
    refine ⟨_, c_evenestEdge (s_16 hG) k1 hf1 Fc hk, ?_⟩
    rintro r m3 ⟨rfl, hb⟩
    have K := Keep.o k2 (by decide) (by decide)
    refine (c_mBal hG (r_329 hG) (r_330 hG) (K.ro hr) Fm (K.n3 h3) hk).mono ?_
    rintro x m4 ⟨a1, hb2⟩
    exact ⟨(Bal_w hww hb2).uq hb, I.keep (K.tr (Keep.T a1))⟩
  · rw [if_neg q]
    refine ⟨fun z => absurd rfl z, fun _ => ?_⟩
    refine CtI_of (by decide) (Nat.le_of_ble_eq_true rfl) rfl (t_X7_balancedCut_0 hG _ _ ⟨_, c_isVertex hG h3 n1 hn v, ?_⟩)
    rintro r m ⟨rfl, rfl⟩
    rw [if_neg q]
    exact ⟨fun z => absurd rfl z, fun _ => ⟨rfl, I⟩⟩
theorem op_rounds (hG : Mn G) (I : Inv mem) (v : Int32) : CtI l M_X6_rounds G [.ref (gA G 0), .int v] mem (fun r m => CtI l M_X7_rounds G [.ref (gA G 327), .int v] m (fun r' m' => r' = r ∧ Inv m')) := by
  obtain ⟨n, wc, wm, E, n1, hn, h3, hf, hw, g, hr⟩ := I.ex
  have Fc := g.f (fun v hv => (hw v hv).2)
  have Fm := g.f (w := wm) (fun v hv => by rw [(hw v hv).1]; exact (hw v hv).2)
  have hww : ∀ v, v < n → wm v = wc v := fun v hv => (hw v hv).1
  refine CtI_of (by decide) (Nat.le_of_ble_eq_true rfl) rfl (t_X6_rounds_0 hG _ mem ⟨_, c_hasVertex (f_1 hG) hf hn v, ?_⟩)
  rintro r m ⟨rfl, rfl⟩
  by_cases q : Vx n v
  · rw [if_pos q]
    obtain ⟨k, hk, rfl⟩ := q.ex
    have pos : ∀ {A B : Prop}, B → (¬ (1 : Int32) = 0 → B) ∧ ((1 : Int32) = 0 → A) := fun b => ⟨fun _ => b, fun z => absurd z (by decide)⟩
    have pos' : ∀ {A B : Prop}, B → ((1 : Int32) = 0 → A) ∧ (¬ (1 : Int32) = 0 → B) := fun b => ⟨fun z => absurd z (by decide), fun _ => b⟩
    refine pos ?_
    refine ⟨_, c_contract hG (f_1 hG) (by decide) hf Fc hk, ?_⟩
    rintro m1 ⟨T1, t0, t1, t2, t3, o⟩
    have K := Keep.o o (by decide) (by decide)
    refine ⟨_, c_ctRounds hG, ?_⟩
    rintro r m3 ⟨rfl, rfl⟩
    refine CtI_of (by decide) (Nat.le_of_ble_eq_true rfl) rfl (t_X7_rounds_0 hG _ _ ⟨_, c_isVertex' hG (K.n3 h3) hn hk, ?_⟩)
    rintro r m2 ⟨rfl, rfl⟩
    refine pos ?_
    refine ⟨_, c_mContract hG (r_329 hG) (by decide) (K.ro hr) Fm hk, ?_⟩
    rintro m4 ⟨T2, u0, u1, u2, u3, ⟨y, y1, y2, y3, y4⟩, u5⟩
    have e := t1.uq u1
    subst e
    exact ⟨by rw [u3, t3], I.keep (K.tr (Keep.M u5))⟩
  · rw [if_neg q]
    refine ⟨fun z => absurd rfl z, fun _ => ?_⟩
    refine CtI_of (by decide) (Nat.le_of_ble_eq_true rfl) rfl (t_X7_rounds_0 hG _ _ ⟨_, c_isVertex hG h3 n1 hn v, ?_⟩)
    rintro r m ⟨rfl, rfl⟩
    rw [if_neg q]
    exact ⟨fun z => absurd rfl z, fun _ => ⟨rfl, I⟩⟩
theorem op_removalRound (hG : Mn G) (I : Inv mem) (v : Int32) : CtI l M_X6_removalRound G [.ref (gA G 0), .int v] mem (fun r m => CtI l M_X7_removalRound G [.ref (gA G 327), .int v] m (fun r' m' => r' = r ∧ Inv m')) := by
  obtain ⟨n, wc, wm, E, n1, hn, h3, hf, hw, g, hr⟩ := I.ex
  have Fc := g.f (fun v hv => (hw v hv).2)
  have Fm := g.f (w := wm) (fun v hv => by rw [(hw v hv).1]; exact (hw v hv).2)
  have hww : ∀ v, v < n → wm v = wc v := fun v hv => (hw v hv).1
  refine CtI_of (by decide) (Nat.le_of_ble_eq_true rfl) rfl (t_X6_removalRound_0 hG _ mem ⟨_, c_hasVertex (f_1 hG) hf hn v, ?_⟩)
  rintro r m ⟨rfl, rfl⟩
  by_cases q : Vx n v
  · rw [if_pos q]
    obtain ⟨k, hk, rfl⟩ := q.ex
    have pos : ∀ {A B : Prop}, B → (¬ (1 : Int32) = 0 → B) ∧ ((1 : Int32) = 0 → A) := fun b => ⟨fun _ => b, fun z => absurd z (by decide)⟩
    have pos' : ∀ {A B : Prop}, B → ((1 : Int32) = 0 → A) ∧ (¬ (1 : Int32) = 0 → B) := fun b => ⟨fun z => absurd z (by decide), fun _ => b⟩
    refine pos ?_
    refine ⟨_, c_contract hG (f_1 hG) (by decide) hf Fc hk, ?_⟩
    rintro m1 ⟨T1, t0, t1, t2, t3, o⟩
    have K := Keep.o o (by decide) (by decide)
    refine ⟨_, c_ctRound hG t2 hn hk, ?_⟩
    rintro r m3 ⟨rfl, rfl⟩
    refine CtI_of (by decide) (Nat.le_of_ble_eq_true rfl) rfl (t_X7_removalRound_0 hG _ _ ⟨_, c_isVertex' hG (K.n3 h3) hn hk, ?_⟩)
    rintro r m2 ⟨rfl, rfl⟩
    refine pos ?_
    refine ⟨_, c_mContract hG (r_329 hG) (by decide) (K.ro hr) Fm hk, ?_⟩
    rintro m4 ⟨T2, u0, u1, u2, u3, ⟨y, y1, y2, y3, y4⟩, u5⟩
    have e := t1.uq u1
    subst e
    rw [i_cl (by omega)]
    exact ⟨i_in (by omega) (by decide), u2.2.1 k (by omega), I.keep (K.tr (Keep.M u5))⟩
  · rw [if_neg q]
    refine ⟨fun z => absurd rfl z, fun _ => ?_⟩
    refine CtI_of (by decide) (Nat.le_of_ble_eq_true rfl) rfl (t_X7_removalRound_0 hG _ _ ⟨_, c_isVertex hG h3 n1 hn v, ?_⟩)
    rintro r m ⟨rfl, rfl⟩
    rw [if_neg q]
    exact ⟨fun z => absurd rfl z, fun _ => ⟨rfl, I⟩⟩
theorem op_survivor (hG : Mn G) (I : Inv mem) (v : Int32) : CtI l M_X6_survivor G [.ref (gA G 0), .int v] mem (fun r m => CtI l M_X7_survivor G [.ref (gA G 327), .int v] m (fun r' m' => r' = r ∧ Inv m')) := by
  obtain ⟨n, wc, wm, E, n1, hn, h3, hf, hw, g, hr⟩ := I.ex
  have Fc := g.f (fun v hv => (hw v hv).2)
  have Fm := g.f (w := wm) (fun v hv => by rw [(hw v hv).1]; exact (hw v hv).2)
  have hww : ∀ v, v < n → wm v = wc v := fun v hv => (hw v hv).1
  refine CtI_of (by decide) (Nat.le_of_ble_eq_true rfl) rfl (t_X6_survivor_0 hG _ mem ⟨_, c_hasVertex (f_1 hG) hf hn v, ?_⟩)
  rintro r m ⟨rfl, rfl⟩
  by_cases q : Vx n v
  · rw [if_pos q]
    obtain ⟨k, hk, rfl⟩ := q.ex
    have pos : ∀ {A B : Prop}, B → (¬ (1 : Int32) = 0 → B) ∧ ((1 : Int32) = 0 → A) := fun b => ⟨fun _ => b, fun z => absurd z (by decide)⟩
    have pos' : ∀ {A B : Prop}, B → ((1 : Int32) = 0 → A) ∧ (¬ (1 : Int32) = 0 → B) := fun b => ⟨fun z => absurd z (by decide), fun _ => b⟩
    refine pos ?_
    refine ⟨_, c_contract hG (f_1 hG) (by decide) hf Fc hk, ?_⟩
    rintro m1 ⟨T1, t0, t1, t2, t3, o⟩
    have K := Keep.o o (by decide) (by decide)
    have tc : Tc n (StC (S0 E (gc n E) k) T1) := by
      obtain ⟨T3, -, w1, w2⟩ := (Tc_S0 Fc hk).1.fin (Tc_S0 Fc hk).2
      have e := t1.uq w1
      subst e
      exact (w2 _ (Nat.le_refl _)).1
    obtain ⟨z, z1, z2⟩ : ∃ z, (StC (S0 E (gc n E) k) T1).1 z = true ∧ ∀ x, x < z → ¬ (StC (S0 E (gc n E) k) T1).1 x = true := by
      obtain ⟨T3, -, w1, w2⟩ := (Tc_S0 Fc hk).1.fin (Tc_S0 Fc hk).2
      have e := t1.uq w1
      subst e
      obtain ⟨x, x1, x2⟩ := cn_ex (w2 _ (Nat.le_refl _)).2
      obtain ⟨a, -, a2, a3⟩ := least_of (p := fun y => (StC (S0 E (gc n E) k) T1).1 y = true) x x2
      exact ⟨a, a2, a3⟩
    refine ⟨_, c_ctLast hG t2 hn (tc.2.2.1 z z1) z1 z2, ?_⟩
    rintro r m3 ⟨rfl, rfl⟩
    refine CtI_of (by decide) (Nat.le_of_ble_eq_true rfl) rfl (t_X7_survivor_0 hG _ _ ⟨_, c_isVertex' hG (K.n3 h3) hn hk, ?_⟩)
    rintro r m2 ⟨rfl, rfl⟩
    refine pos ?_
    refine ⟨_, c_mContract hG (r_329 hG) (by decide) (K.ro hr) Fm hk, ?_⟩
    rintro m4 ⟨T2, u0, u1, u2, u3, ⟨y, y1, y2, y3, y4⟩, u5⟩
    have e := t1.uq u1
    subst e
    refine ⟨?_, I.keep (K.tr (Keep.M u5))⟩
    rw [y2]
    rcases Nat.lt_trichotomy y z with q | q | q
    · exact absurd y3 (z2 y q)
    · rw [q]
    · exact absurd z1 (y4 z q)
  · rw [if_neg q]
    refine ⟨fun z => absurd rfl z, fun _ => ?_⟩
    refine CtI_of (by decide) (Nat.le_of_ble_eq_true rfl) rfl (t_X7_survivor_0 hG _ _ ⟨_, c_isVertex hG h3 n1 hn v, ?_⟩)
    rintro r m ⟨rfl, rfl⟩
    rw [if_neg q]
    exact ⟨fun z => absurd rfl z, fun _ => ⟨rfl, I⟩⟩
end OP
