/-! other queries: class and model answer alike -/
section OP
variable {l : Launch} {G : Gx} {mem : Mem}
theorem pos_ {A B : Prop} (b : B) : (¬ (1 : Int32) = 0 → B) ∧ ((1 : Int32) = 0 → A) := ⟨fun _ => b, fun z => absurd z (by decide)⟩
theorem pos' {A B : Prop} (b : B) : ((1 : Int32) = 0 → A) ∧ (¬ (1 : Int32) = 0 → B) := ⟨fun z => absurd z (by decide), fun _ => b⟩
theorem neg_ {A B : Prop} (b : B) : ((0 : Int32) = 0 → B) ∧ (¬ (0 : Int32) = 0 → A) := ⟨fun _ => b, fun z => absurd rfl z⟩
theorem neg' {A B : Prop} (b : B) : (¬ (0 : Int32) = 0 → A) ∧ ((0 : Int32) = 0 → B) := ⟨fun z => absurd rfl z, fun _ => b⟩
theorem op_vertexWeight (hG : Mn G) (I : Inv mem) (v : Int32) : CtI l M_X6_vertexWeight G [.ref (gA G 0), .int v] mem (fun r m => CtI l M_X7_vertexWeight G [.ref (gA G 327), .int v] m (fun r' m' => r' = r ∧ Inv m')) := by
  obtain ⟨n, wc, wm, E, n1, hn, h3, hf, hw, g, hr⟩ := I.ex
  refine CtI_of (by decide) (Nat.le_of_ble_eq_true rfl) rfl (t_X6_vertexWeight_0 hG _ mem ⟨_, c_hasVertex (f_1 hG) hf hn v, ?_⟩)
  rintro r m ⟨rfl, rfl⟩
  by_cases q : Vx n v
  · rw [if_pos q]
    obtain ⟨k, hk, rfl⟩ := q.ex
    refine pos' ⟨_, c_weightOf (f_1 hG) hf hn hk, ?_⟩
    rintro r m ⟨rfl, rfl⟩
    refine CtI_of (by decide) (Nat.le_of_ble_eq_true rfl) rfl (t_X7_vertexWeight_0 hG _ _ ⟨_, c_isVertex' hG h3 hn hk, ?_⟩)
    rintro r m2 ⟨rfl, rfl⟩
    rw [i_cl (by omega)]
    exact pos' ⟨i_in (by omega) (by decide), by rw [hr.1 k (by omega), (hw k hk).1], I⟩
  · rw [if_neg q]
    refine neg_ ?_
    refine CtI_of (by decide) (Nat.le_of_ble_eq_true rfl) rfl (t_X7_vertexWeight_0 hG _ _ ⟨_, c_isVertex hG h3 n1 hn v, ?_⟩)
    rintro r m ⟨rfl, rfl⟩
    rw [if_neg q]
    exact neg_ ⟨rfl, I⟩
/-- two vertices are asked for, and one is none -/
theorem op_edgeWeight (hG : Mn G) (I : Inv mem) (u v : Int32) : CtI l M_X6_edgeWeight G [.ref (gA G 0), .int u, .int v] mem (fun r m => CtI l M_X7_edgeWeight G [.ref (gA G 327), .int u, .int v] m (fun r' m' => r' = r ∧ Inv m')) := by
  obtain ⟨n, wc, wm, E, n1, hn, h3, hf, hw, g, hr⟩ := I.ex
  refine CtI_of (by decide) (Nat.le_of_ble_eq_true rfl) rfl (t_X6_edgeWeight_0 hG _ _ mem ⟨_, c_hasVertices (f_1 hG) hf hn u v, ?_⟩)
  rintro r m ⟨rfl, rfl⟩
  by_cases q : Vx n u ∧ Vx n v
  · rw [if_pos q]
    obtain ⟨i, hi, rfl⟩ := q.1.ex
    obtain ⟨j, hj, rfl⟩ := q.2.ex
    have be := g.2.2.1 i j
    refine pos_ ⟨_, c_hasEdge (f_1 hG) hf hn hi hj (by omega), ?_⟩
    rintro r m ⟨rfl, rfl⟩
    have mdl : ∀ r : Int32, (r = if 0 < E i j then nI (E i j) else -9) → CtI l M_X7_edgeWeight G [.ref (gA G 327), .int (nI i), .int (nI j)] m (fun r' m' => r' = r ∧ Inv m') := by
      intro r er
      refine CtI_of (by decide) (Nat.le_of_ble_eq_true rfl) rfl (t_X7_edgeWeight_0 hG _ _ _ ⟨_, c_isVertex' hG h3 hn hi, ?_⟩)
      rintro y m ⟨rfl, rfl⟩
      refine pos' ⟨_, c_isVertex' hG h3 hn hj, ?_⟩
      rintro y m ⟨rfl, rfl⟩
      refine pos_ ⟨_, c_at, ?_⟩
      rintro y m ⟨rfl, rfl⟩
      rw [i_cl (by omega), hr.2 i j (by omega) (by omega)]
      refine ⟨i_in (by omega) (by decide), fun z => ⟨?_, I⟩, fun z => ⟨_, c_at, ?_⟩⟩
      · have := (i_nle (b := 0) (by omega) (by decide)).mp z
        rw [er, if_neg (by omega)]
      · rintro y m ⟨rfl, rfl⟩
        have e0 : 0 < E i j := by
          rcases Nat.eq_zero_or_pos (E i j) with e | e
          · exact absurd (by rw [e]; exact (i_nle (a := 0) (b := 0) (by decide) (by decide)).mpr (Nat.le_refl _)) z
          · exact e
        rw [i_cl (by omega), hr.2 i j (by omega) (by omega), er, if_pos e0]
        exact ⟨i_in (by omega) (by decide), rfl, I⟩
    by_cases e : 0 < E i j
    · rw [if_pos e]
      refine pos' ⟨_, c_edgeBetween (f_1 hG) hf hn hi hj, ?_⟩
      rintro r m ⟨rfl, rfl⟩
      exact mdl _ (by rw [if_pos e])
    · rw [if_neg e]
      exact neg_ (mdl _ (by rw [if_neg e]))
  · rw [if_neg q]
    refine neg' ?_
    refine CtI_of (by decide) (Nat.le_of_ble_eq_true rfl) rfl (t_X7_edgeWeight_0 hG _ _ _ ⟨_, c_isVertex hG h3 n1 hn u, ?_⟩)
    rintro y m ⟨rfl, rfl⟩
    by_cases qu : Vx n u
    · rw [if_pos qu]
      refine pos' ⟨_, c_isVertex hG h3 n1 hn v, ?_⟩
      rintro y m ⟨rfl, rfl⟩
      rw [if_neg (fun z => q ⟨qu, z⟩)]
      exact neg' ⟨rfl, I⟩
    · rw [if_neg qu]
      exact neg_ ⟨rfl, I⟩
theorem op_distance (hG : Mn G) (I : Inv mem) (u v : Int32) : CtI l M_X6_distance G [.ref (gA G 0), .int u, .int v] mem (fun r m => CtI l M_X7_distance G [.ref (gA G 327), .int u, .int v] m (fun r' m' => r' = r ∧ Inv m')) := by
  obtain ⟨n, wc, wm, E, n1, hn, h3, hf, hw, g, hr⟩ := I.ex
  have Fc := g.f (fun v hv => (hw v hv).2)
  have Fm := g.f (w := wm) (fun v hv => by rw [(hw v hv).1]; exact (hw v hv).2)
  refine CtI_of (by decide) (Nat.le_of_ble_eq_true rfl) rfl (t_X6_distance_0 hG _ _ mem ⟨_, c_hasVertices (f_1 hG) hf hn u v, ?_⟩)
  rintro r m ⟨rfl, rfl⟩
  by_cases q : Vx n u ∧ Vx n v
  · rw [if_pos q]
    obtain ⟨i, hi, rfl⟩ := q.1.ex
    obtain ⟨j, hj, rfl⟩ := q.2.ex
    refine pos_ ⟨_, c_measure (s_16 hG) hf Fc, ?_⟩
    rintro m1 ⟨k1, k2⟩
    have K := Keep.o k2 (by decide) (by decide)
    refine ⟨_, c_joined (s_16 hG) k1 Fc (by omega) (by omega), ?_⟩
    rintro r m2 ⟨rfl, rfl⟩
    have mdl : ∀ r : Int32, (r = ifc (gc n E i j) (nI (gd n E i j)) (-9)) → CtI l M_X7_distance G [.ref (gA G 327), .int (nI i), .int (nI j)] m2 (fun r' m' => r' = r ∧ Inv m') := by
      intro r er
      refine CtI_of (by decide) (Nat.le_of_ble_eq_true rfl) rfl (t_X7_distance_0 hG _ _ _ ⟨_, c_isVertex' hG (K.n3 h3) hn hi, ?_⟩)
      rintro y m ⟨rfl, rfl⟩
      refine pos' ⟨_, c_isVertex' hG (K.n3 h3) hn hj, ?_⟩
      rintro y m ⟨rfl, rfl⟩
      refine pos' ⟨_, c_farOf hG (r_329 hG) (K.ro hr) Fm hi (by omega), ?_⟩
      rintro y m3 ⟨a1, rfl⟩
      exact ⟨er.symm, I.keep (K.tr (Keep.f a1))⟩
    refine jn (fun e => mdl _ (by rw [ifc_f e])) (fun e => ⟨_, c_between (s_16 hG) k1 Fc (by omega) (by omega), ?_⟩)
    rintro r m3 ⟨rfl, rfl⟩
    exact mdl _ (by rw [ifc_t e, ifc_t e])
  · rw [if_neg q]
    refine neg' ?_
    refine CtI_of (by decide) (Nat.le_of_ble_eq_true rfl) rfl (t_X7_distance_0 hG _ _ _ ⟨_, c_isVertex hG h3 n1 hn u, ?_⟩)
    rintro y m ⟨rfl, rfl⟩
    by_cases qu : Vx n u
    · rw [if_pos qu]
      refine pos' ⟨_, c_isVertex hG h3 n1 hn v, ?_⟩
      rintro y m ⟨rfl, rfl⟩
      rw [if_neg (fun z => q ⟨qu, z⟩)]
      exact neg_ ⟨rfl, I⟩
    · rw [if_neg qu]
      exact neg_ ⟨rfl, I⟩
theorem op_pathVertex (hG : Mn G) (I : Inv mem) (u v x : Int32) : CtI l M_X6_pathVertex G [.ref (gA G 0), .int u, .int v, .int x] mem (fun r m => CtI l M_X7_pathVertex G [.ref (gA G 327), .int u, .int v, .int x] m (fun r' m' => r' = r ∧ Inv m')) := by
  obtain ⟨n, wc, wm, E, n1, hn, h3, hf, hw, g, hr⟩ := I.ex
  have Fc := g.f (fun v hv => (hw v hv).2)
  have Fm := g.f (w := wm) (fun v hv => by rw [(hw v hv).1]; exact (hw v hv).2)
  refine CtI_of (by decide) (Nat.le_of_ble_eq_true rfl) rfl (t_X6_pathVertex_0 hG _ _ _ mem ⟨_, c_hasVertices (f_1 hG) hf hn u v, ?_⟩)
  rintro r m ⟨rfl, rfl⟩
  by_cases q : Vx n u ∧ Vx n v
  · rw [if_pos q]
    obtain ⟨i, hi, rfl⟩ := q.1.ex
    obtain ⟨j, hj, rfl⟩ := q.2.ex
    refine pos_ ⟨fun z => ⟨_, c_measure (s_16 hG) hf Fc, ?_⟩, fun z => ?_⟩
    · rintro m1 ⟨k1, k2⟩
      have K := Keep.o k2 (by decide) (by decide)
      have hx : 0 ≤ x.toInt := by rw [i_le, i_0] at z; exact z
      refine ⟨_, c_vertexOnPath (s_16 hG) k1 (hf.out k2 (by decide)) Fc hi hj hx, ?_⟩
      rintro r m2 ⟨rfl, hp⟩
      refine (c_mPath hG (r_329 hG) (K.ro hr) Fm (K.n3 h3) hi hj hx).mono ?_
      rintro y m3 ⟨a1, hp2⟩
      exact ⟨hp2.uq Fc hp, I.keep (K.tr (Keep.f a1))⟩
    · refine CtI_of (by decide) (Nat.le_of_ble_eq_true rfl) rfl (t_X7_pathVertex_0 hG _ _ _ _ ⟨_, c_isVertex' hG h3 hn hi, ?_⟩)
      rintro y m ⟨rfl, rfl⟩
      refine pos' ⟨_, c_isVertex' hG h3 hn hj, ?_⟩
      rintro y m ⟨rfl, rfl⟩
      exact pos_ ⟨fun y => absurd y z, fun _ => ⟨rfl, I⟩⟩
  · rw [if_neg q]
    refine neg' ?_
    refine CtI_of (by decide) (Nat.le_of_ble_eq_true rfl) rfl (t_X7_pathVertex_0 hG _ _ _ _ ⟨_, c_isVertex hG h3 n1 hn u, ?_⟩)
    rintro y m ⟨rfl, rfl⟩
    by_cases qu : Vx n u
    · rw [if_pos qu]
      refine pos' ⟨_, c_isVertex hG h3 n1 hn v, ?_⟩
      rintro y m ⟨rfl, rfl⟩
      rw [if_neg (fun z => q ⟨qu, z⟩)]
      exact neg' ⟨rfl, I⟩
    · rw [if_neg qu]
      exact neg_ ⟨rfl, I⟩
theorem op_diameterEnd (hG : Mn G) (I : Inv mem) (v x : Int32) : CtI l M_X6_diameterEnd G [.ref (gA G 0), .int v, .int x] mem (fun r m => CtI l M_X7_diameterEnd G [.ref (gA G 327), .int v, .int x] m (fun r' m' => r' = r ∧ Inv m')) := by
  obtain ⟨n, wc, wm, E, n1, hn, h3, hf, hw, g, hr⟩ := I.ex
  have Fc := g.f (fun v hv => (hw v hv).2)
  have Fm := g.f (w := wm) (fun v hv => by rw [(hw v hv).1]; exact (hw v hv).2)
  refine CtI_of (by decide) (Nat.le_of_ble_eq_true rfl) rfl (t_X6_diameterEnd_0 hG _ _ mem ⟨_, c_hasVertex (f_1 hG) hf hn v, ?_⟩)
  rintro r m ⟨rfl, rfl⟩
  by_cases q : Vx n v
  · rw [if_pos q]
    obtain ⟨i, hi, rfl⟩ := q.ex
    -- the model's answer is the class's
    have mdl : ∀ m2 : Mem, Keep m m2 → (0 ≤ x.toInt ∧ x.toInt ≤ 1) → ∀ r : Int32, EndAns n (gc n E) (gd n E) i x r → CtI l M_X7_diameterEnd G [.ref (gA G 327), .int (nI i), .int x] m2 (fun r' m' => r' = r ∧ Inv m') := by
      intro m2 K hx r hq
      refine (c_mEnd hG (r_329 hG) (K.ro hr) Fm (K.n3 h3) hi hx).mono ?_
      rintro y m3 ⟨a1, hp2⟩
      exact ⟨hp2.uq hq, I.keep (K.tr (Keep.F a1))⟩
    refine pos_ ⟨fun z => ⟨_, c_measure (s_16 hG) hf Fc, ?_⟩, fun z => ⟨fun z2 => ⟨_, c_measure (s_16 hG) hf Fc, ?_⟩, fun z2 => ?_⟩⟩
    · rintro m1 ⟨k1, k2⟩
      have K := Keep.o k2 (by decide) (by decide)
      refine ⟨_, c_firstWideEnd (s_16 hG) k1 Fc hi, ?_⟩
      rintro r m2 ⟨rfl, a, rfl, ha⟩
      obtain ⟨b, hb⟩ := AMax_ex (p := gc n E a) (f := gd n E a) (k := n) ⟨a, ha.1, Fc.tD.rf ha.1⟩
      exact ⟨fun y => absurd z y, fun _ => mdl _ K (by rw [z]; decide) _ ⟨a, b, ha, hb, by rw [if_pos z]⟩⟩
    · rintro m1 ⟨k1, k2⟩
      have K := Keep.o k2 (by decide) (by decide)
      refine ⟨_, c_firstWideEnd (s_16 hG) k1 Fc hi, ?_⟩
      rintro r m2 ⟨rfl, a, rfl, ha⟩
      refine ⟨fun _ => ⟨_, c_firstFarthest (s_16 hG) k1 Fc ha.1, ?_⟩, fun y => absurd y z⟩
      rintro r m3 ⟨rfl, b, rfl, hb⟩
      exact mdl _ K (by rw [z2]; decide) _ ⟨a, b, ha, hb, by rw [if_neg z]⟩
    · refine CtI_of (by decide) (Nat.le_of_ble_eq_true rfl) rfl (t_X7_diameterEnd_0 hG _ _ _ ⟨_, c_isVertex' hG h3 hn hi, ?_⟩)
      rintro y m ⟨rfl, rfl⟩
      refine pos_ ⟨_, c_in' x 0 1 i_64_0 i_64_1, ?_⟩
      rintro y m ⟨rfl, rfl⟩
      rw [if_neg (fun y => by
        rw [i_eq, i_0] at z
        rw [i_eq, i_1] at z2
        omega)]
      exact neg' ⟨rfl, I⟩
  · rw [if_neg q]
    refine neg' ?_
    refine CtI_of (by decide) (Nat.le_of_ble_eq_true rfl) rfl (t_X7_diameterEnd_0 hG _ _ _ ⟨_, c_isVertex hG h3 n1 hn v, ?_⟩)
    rintro y m ⟨rfl, rfl⟩
    rw [if_neg q]
    exact neg' ⟨rfl, I⟩
theorem op_meeting (hG : Mn G) (I : Inv mem) (u v x : Int32) : CtI l M_X6_meeting G [.ref (gA G 0), .int u, .int v, .int x] mem (fun r m => CtI l M_X7_meeting G [.ref (gA G 327), .int u, .int v, .int x] m (fun r' m' => r' = r ∧ Inv m')) := by
  obtain ⟨n, wc, wm, E, n1, hn, h3, hf, hw, g, hr⟩ := I.ex
  have Fc := g.f (fun v hv => (hw v hv).2)
  have Fm := g.f (w := wm) (fun v hv => by rw [(hw v hv).1]; exact (hw v hv).2)
  refine CtI_of (by decide) (Nat.le_of_ble_eq_true rfl) rfl (t_X6_meeting_0 hG _ _ _ mem ⟨_, c_hasVertices (f_1 hG) hf hn u v, ?_⟩)
  rintro r m ⟨rfl, rfl⟩
  have mdl : ¬ (Vx n u ∧ Vx n v ∧ Vx n x) → CtI l M_X7_meeting G [.ref (gA G 327), .int u, .int v, .int x] m (fun r' m' => r' = -1 ∧ Inv m') := by
    intro nq
    refine CtI_of (by decide) (Nat.le_of_ble_eq_true rfl) rfl (t_X7_meeting_0 hG _ _ _ _ ⟨_, c_isVertex hG h3 n1 hn u, ?_⟩)
    rintro y m ⟨rfl, rfl⟩
    by_cases qu : Vx n u
    · rw [if_pos qu]
      refine pos' ⟨_, c_isVertex hG h3 n1 hn v, ?_⟩
      rintro y m ⟨rfl, rfl⟩
      by_cases qv : Vx n v
      · rw [if_pos qv]
        refine pos' ⟨_, c_isVertex hG h3 n1 hn x, ?_⟩
        rintro y m ⟨rfl, rfl⟩
        rw [if_neg (fun z => nq ⟨qu, qv, z⟩)]
        exact neg' ⟨rfl, I⟩
      · rw [if_neg qv]
        exact neg_ ⟨rfl, I⟩
    · rw [if_neg qu]
      exact neg_ ⟨rfl, I⟩
  by_cases q : Vx n u ∧ Vx n v
  · rw [if_pos q]
    refine pos' ⟨_, c_hasVertex (f_1 hG) hf hn x, ?_⟩
    rintro r m ⟨rfl, rfl⟩
    by_cases qx : Vx n x
    · rw [if_pos qx]
      obtain ⟨i, hi, rfl⟩ := q.1.ex
      obtain ⟨j, hj, rfl⟩ := q.2.ex
      obtain ⟨k, hk, rfl⟩ := qx.ex
      refine pos_ ⟨_, c_measure (s_16 hG) hf Fc, ?_⟩
      rintro m1 ⟨k1, k2⟩
      have K := Keep.o k2 (by decide) (by decide)
      refine ⟨_, c_meetingOf (s_16 hG) k1 Fc hi hj hk, ?_⟩
      rintro r m2 ⟨rfl, hp⟩
      refine (c_mMeeting hG (r_329 hG) (K.ro hr) Fm (K.n3 h3) hi hj hk).mono ?_
      rintro y m3 ⟨a1, hp2⟩
      refine ⟨?_, I.keep (K.tr (Keep.f a1))⟩
      rcases hp with ⟨h1, h2⟩ | ⟨h1, z, h2, h3, h4⟩ <;> rcases hp2 with ⟨g1, g2⟩ | ⟨g1, z', g2, g3, g4⟩
      · rw [h2, g2]
      · exact absurd g1 h1
      · exact absurd h1 g1
      · rw [h2, g2]
        rcases Nat.lt_trichotomy z z' with t | t | t
        · exact absurd h3 (g4 z t)
        · rw [t]
        · exact absurd g3 (h4 z' t)
    · rw [if_neg qx]
      exact neg' (mdl (fun z => qx z.2.2))
  · rw [if_neg q]
    exact neg_ (mdl (fun z => q ⟨z.1, z.2.1⟩))
end OP
