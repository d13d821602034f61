/-! reach, possible weights, scripts, random changes, the error position: class and model answer alike -/
section OP
variable {l : Launch} {G : Gx} {mem : Mem}
theorem op_expectedReach (hG : Mn G) (I : Inv mem) (v x : Int32) : CtL l M_X6_expectedReach G [.ref (gA G 0), .int v, .int x] mem (fun r m => CtL l M_X7_expectedReach G [.ref (gA G 327), .int v, .int x] m (fun r' m' => r' = r ∧ Inv m')) := by
  obtain ⟨n, wc, wm, E, n1, hn, h3, hf, hw, g, hr⟩ := I.ex
  have Fc := g.f (fun v hv => (hw v hv).2)
  have Fm := g.f (w := wm) (fun v hv => by rw [(hw v hv).1]; exact (hw v hv).2)
  have hww : ∀ v, v < n → wm v = wc v := fun v hv => (hw v hv).1
  refine CtL_of (by decide) (Nat.le_of_ble_eq_true rfl) rfl (t_X6_expectedReach_0 hG _ _ mem ⟨_, c_hasVertex (f_1 hG) hf hn v, ?_⟩)
  rintro r m ⟨rfl, rfl⟩
  by_cases q : Vx n v
  · rw [if_pos q]
    obtain ⟨i, hi, rfl⟩ := q.ex
    have bad : ¬ (0 ≤ x.toInt ∧ x.toInt ≤ 10) → CtL l M_X7_expectedReach G [.ref (gA G 327), .int (nI i), .int x] m (fun r' m' => r' = -2 ∧ Inv m') := by
      intro nx
      refine CtL_of (by decide) (Nat.le_of_ble_eq_true rfl) rfl (t_X7_expectedReach_0 hG _ _ _ ⟨_, c_isVertex' hG h3 hn hi, ?_⟩)
      rintro y m ⟨rfl, rfl⟩
      refine pos_ ⟨_, c_in' x 0 10 i_64_0 (d' := 10) rfl, ?_⟩
      rintro y m ⟨rfl, rfl⟩
      rw [if_neg nx]
      exact neg' ⟨rfl, I⟩
    refine pos_ ⟨fun z => bad (fun y => ?_), fun z => ⟨fun z2 => ⟨_, c_measure (s_16 hG) hf Fc, ?_⟩, fun z2 => bad (fun y => ?_)⟩⟩
    · rw [i_lt, i_0] at z; omega
    · rintro m1 ⟨k1, k2⟩
      rw [i_lt, i_0] at z
      rw [i_le, i_10] at z2
      obtain ⟨t, ht, rfl⟩ : ∃ t : Nat, t < 11 ∧ x = nI t := i_arg (by omega) (by omega)
      have K := Keep.o k2 (by decide) (by decide)
      have e10 : (10 : Int32) - nI t = nI (10 - t) := pk_sub (a := 10) (by omega)
      rw [e10]
      refine ⟨_, c_reachOf (s_16 hG) k1 (hf.out k2 (by decide)) Fc hi (by omega), ?_⟩
      rintro r m2 ⟨rfl, rfl⟩
      refine (c_mReach hG (r_329 hG) (K.ro hr) Fm (K.n3 h3) hi (by omega)).mono ?_
      rintro y m3 ⟨a1, rfl⟩
      exact ⟨by rw [Rea_w hww], I.keep (K.tr (Keep.f a1))⟩
    · rw [i_le, i_10] at z2; omega
  · rw [if_neg q]
    refine neg' ?_
    refine CtL_of (by decide) (Nat.le_of_ble_eq_true rfl) rfl (t_X7_expectedReach_0 hG _ _ _ ⟨_, c_isVertex hG h3 n1 hn v, ?_⟩)
    rintro y m ⟨rfl, rfl⟩
    rw [if_neg q]
    exact neg' ⟨rfl, I⟩
theorem perm6 {P : Nat → Prop} {nx ct : Nat} (h1 : nx < 6) (h2 : ct ≤ 6) (h3 : ct < 6 → nx = ct) : (∀ i, i < ct → P ((nx + 6 - ct + i) % 6)) ↔ ∀ j, j < ct → P j := by
  refine ⟨fun h j hj => ?_, fun h i hi => ?_⟩
  · by_cases c : ct < 6
    · have e := h3 c
      have := h j hj
      rw [show (nx + 6 - ct + j) % 6 = j by omega] at this
      exact this
    · have := h ((j + 6 - nx) % 6) (by omega)
      rw [show (nx + 6 - ct + (j + 6 - nx) % 6) % 6 = j by omega] at this
      exact this
  · refine h _ ?_
    by_cases c : ct < 6
    · have e := h3 c
      omega
    · omega
theorem op_possibleWeights (hG : Mn G) (I : Inv mem) (u v : Int32) : CtI l M_X6_possibleWeights G [.ref (gA G 0), .int u, .int v] mem (fun r m => CtI l M_X7_possibleWeights G [.ref (gA G 327), .int u, .int v] m (fun r' m' => r' = r ∧ Inv m')) := by
  obtain ⟨n, wc, wm, E, n1, hn, h3, hf, hw, g, hr⟩ := I.ex
  have Fc := g.f (fun v hv => (hw v hv).2)
  have Fm := g.f (w := wm) (fun v hv => by rw [(hw v hv).1]; exact (hw v hv).2)
  have hob : Ob mem := by obtain ⟨_, -, -, -, q, -⟩ := I; exact q
  obtain ⟨nx, ct, us, vs, ds, ⟨b1, b2, b3, b4, b5, b6⟩, b7, b8⟩ := hob
  have om : ∀ m, Keep mem m → ObM m ct (fun i => us ((nx + 6 - ct + i) % 6)) (fun i => vs ((nx + 6 - ct + i) % 6)) (fun i => ds ((nx + 6 - ct + i) % 6)) := by
    intro m K
    refine ⟨by rw [K.2.2 14 (by decide) (by decide) (by decide) (by decide)]; exact b6, b4, fun i hi => ?_⟩
    have lt := (perm6 (P := fun j => us j < 12 ∧ vs j < 12 ∧ ds j < 1000) b2 b4 b5).mpr (fun j hj => (b7 j hj).2.2.2) i hi
    rw [K.1 335 (by omega)]
    exact ⟨(b8 i hi).1, (b8 i hi).2.1, (b8 i hi).2.2, lt⟩
  have mdl : ∀ (m : Mem), Keep mem m → ∀ r : Int32, ((∃ a b, a < n ∧ b < n ∧ u = nI a ∧ v = nI b ∧ 0 < E a b ∧ r = nI (Pos E (gc n E) (gd n E) a b us vs ds ct)) ∨ (¬ r = 0 ∧ EdgeErr n E u v 1 r)) → CtI l M_X7_possibleWeights G [.ref (gA G 327), .int u, .int v] m (fun r' m' => r' = r ∧ Inv m') := by
    intro m K r hq
    refine (c_mPos hG (r_329 hG) (r_330 hG) (K.ro hr) Fm (K.n3 h3) (om m K) u v).mono ?_
    rintro y m3 ⟨a1, hp⟩
    refine ⟨?_, I.keep (K.tr (Keep.T a1))⟩
    have i1 : 1 ≤ (1 : Int32).toInt ∧ (1 : Int32).toInt ≤ 99 := by decide
    rcases hp with ⟨a, b, p1, p2, p3, p4, p5, p6⟩ | ⟨p1, p2⟩ <;> rcases hq with ⟨a', b', q1, q2, q3, q4, q5, q6⟩ | ⟨q1, q2⟩
    · have e1 := (i_neq (by omega) (by omega)).mp (p3.symm.trans q3)
      have e2 := (i_neq (by omega) (by omega)).mp (p4.symm.trans q4)
      subst e1; subst e2
      rw [p6, q6]
      refine congrArg nI ?_
      exact smO_cong (fun x _ => ⟨fun z => ⟨z.1, (perm6 (P := fun j => ObH E (gc n E) (gd n E) a b x (us j) (vs j) (ds j)) b2 b4 b5).mp z.2⟩, fun z => ⟨z.1, (perm6 (P := fun j => ObH E (gc n E) (gd n E) a b x (us j) (vs j) (ds j)) b2 b4 b5).mpr z.2⟩⟩) (fun _ _ _ => rfl)
    · subst p3; subst p4
      exact absurd ((q2.ok i1 (by omega) (by omega) hn).mpr ⟨p1, p2, p5⟩) q1
    · subst q3; subst q4
      exact absurd ((p2.ok i1 (by omega) (by omega) hn).mpr ⟨q1, q2, q5⟩) p1
    · exact p2.uq hn q2
  refine CtI_of (by decide) (Nat.le_of_ble_eq_true rfl) rfl (t_X6_possibleWeights_0 hG _ _ mem ⟨_, c_hasVertices (f_1 hG) hf hn u v, ?_⟩)
  rintro r m ⟨rfl, rfl⟩
  by_cases q : Vx n u ∧ Vx n v
  · rw [if_pos q]
    obtain ⟨i, hi, rfl⟩ := q.1.ex
    obtain ⟨j, hj, rfl⟩ := q.2.ex
    have be := g.2.2.1 i j
    refine pos_ ⟨_, c_hasEdge (f_1 hG) hf hn hi hj (by omega), ?_⟩
    rintro r m ⟨rfl, rfl⟩
    by_cases e : 0 < E i j
    · rw [if_pos e]
      refine pos_ ⟨_, c_measure (s_16 hG) hf Fc, ?_⟩
      rintro m1 ⟨k1, k2⟩
      have K := Keep.o k2 (by decide) (by decide)
      refine ⟨_, c_countWeights hG (s_16 hG) k1 (hf.out k2 (by decide)) Fc e (us := us) (vs := vs) (ds := ds) (ct := ct) ?_ b4 ?_, ?_⟩
      · rw [K.1 291 (by omega)]; exact b3
      · rw [K.1 292 (by omega), K.1 293 (by omega), K.1 294 (by omega)]; exact b7
      · rintro r m2 ⟨rfl, rfl⟩
        exact mdl _ K _ (Or.inl ⟨i, j, hi, hj, rfl, rfl, e, rfl⟩)
    · rw [if_neg e]
      exact neg' (mdl _ Keep.rf _ (Or.inr ⟨by decide, Or.inr ⟨i, j, ⟨hi, hj, rfl, rfl⟩, Or.inr ⟨by decide, Or.inl ⟨by omega, rfl⟩⟩⟩⟩))
  · rw [if_neg q]
    exact neg' (mdl _ Keep.rf _ (Or.inr ⟨by decide, Or.inl ⟨q, rfl⟩⟩))
theorem op_runScript (hG : Mn G) (I : Inv mem) (a : Int32) (b : Int64) : CtI l M_X6_runScript G [.ref (gA G 0), .int a, .long b] mem (fun r m => CtI l M_X7_runScript G [.ref (gA G 327), .int a, .long b] m (fun r' m' => r' = r ∧ Inv m')) := by
  obtain ⟨n, wc, wm, E, n1, hn, h3, hf, hw, g, hr⟩ := I.ex
  refine (c_script hG (f_1 hG) (s_45 hG) hf g (fun v hv => (hw v hv).2) a b).mono ?_
  rintro r m ⟨k1, hp⟩
  have K := Keep.o k1 (by decide) (by decide)
  refine (c_mScript hG (r_329 hG) (r_330 hG) (K.ro hr) g (fun v hv => by rw [(hw v hv).1]; exact (hw v hv).2) (K.n3 h3) a b).mono ?_
  rintro r' m' ⟨k2, hq⟩
  refine ⟨?_, I.keep (K.tr (Keep.C k2))⟩
  rcases hp with ⟨p1, p2⟩ | ⟨k, s, p1, p2⟩ <;> rcases hq with ⟨q1, q2⟩ | ⟨k', s', q1, q2⟩
  · rw [p2, q2]
  · exact (p1.no q1).elim
  · exact (q1.no p1).elim
  · have e1 := (i_neq (by have := p1.2.2.1; omega) (by have := q1.2.2.1; omega)).mp (p1.1.symm.trans q1.1)
    subst e1
    have hp := h_pow p1.2.2.1
    have e2 := congrArg Int64.toInt (p1.2.2.2.1.symm.trans q1.2.2.2.1)
    rw [lN_int (by have := p1.2.2.2.2; omega), lN_int (by have := q1.2.2.2.2; omega)] at e2
    have e2 : s = s' := by omega
    subst e2
    exact q2.uq p2
theorem op_randomChanges (hG : Mn G) (I : Inv mem) (s : Int64) (a : Int32) : CtI l M_X6_randomChanges G [.ref (gA G 0), .long s, .int a] mem (fun r m => CtI l M_X7_randomChanges G [.ref (gA G 327), .long s, .int a] m (fun r' m' => r' = r ∧ Inv m')) := by
  obtain ⟨n, wc, wm, E, n1, hn, h3, hf, hw, g, hr⟩ := I.ex
  refine (c_random hG (f_1 hG) (s_45 hG) hf g (fun v hv => (hw v hv).2) s a).mono ?_
  rintro r m ⟨k1, hp⟩
  have K := Keep.o k1 (by decide) (by decide)
  refine (c_mRandom hG (r_329 hG) (r_330 hG) (K.ro hr) g (fun v hv => by rw [(hw v hv).1]; exact (hw v hv).2) (K.n3 h3) s a).mono ?_
  rintro r' m' ⟨k2, hq⟩
  exact ⟨hq.uq hp, I.keep (K.tr (Keep.C k2))⟩
theorem RdAns.uq {tx : Nat → Nat} {len : Nat} {r r' : Int32} (h : RdAns tx len r) (g : RdAns tx len r') : r = r' := by
  rcases h with ⟨n, E, h1, h2⟩ | ⟨h1, h2⟩ <;> rcases g with ⟨n', E', g1, g2⟩ | ⟨g1, g2⟩
  · rw [h2, g2]
  · rw [h1] at g1; cases g1
  · rw [h1] at g1; cases g1
  · rw [h2, g2]
theorem Keep.rd {m m' : Mem} {len : Nat} {tx : Nat → Nat} (h : OtC 30 m m') (h1 : TxC m len tx) (h2 : TxC m' len tx) : Keep m m' := ⟨fun a q => h a (by omega) (by omega) (by omega), by rw [h1.1, h2.1], fun j _ _ _ _ => by rw [h 327 (by omega) (by omega) (by omega)]⟩
theorem Keep.N {m m' : Mem} (h : OtN m m') : Keep m m' := ⟨fun a q => h.1 a (by omega) (by omega) (by omega) (by omega), by rw [h.1 76 (by omega) (by omega) (by omega) (by omega)], fun j a1 a2 _ _ => h.2 j a1 a2⟩
theorem op_errorPosition (hG : Mn G) (I : Inv mem) : CtI l M_X6_errorPosition G [.ref (gA G 0)] mem (fun r m => CtI l M_X7_errorPosition G [.ref (gA G 327)] m (fun r' m' => r' = r ∧ Inv m')) := by
  have htx : Tx mem := by obtain ⟨_, -, -, -, -, q⟩ := I; exact q
  obtain ⟨len, tx, t1, t2⟩ := htx
  refine CtI_of (by decide) (Nat.le_of_ble_eq_true rfl) rfl (t_X6_errorPosition_0 hG mem ⟨_, c_readInto hG (f_30 hG) (by decide) t1, ?_⟩)
  rintro r m ⟨k1, k2, k3, -⟩
  have K := Keep.rd k2 t1 k1
  have t2' : TxM m len tx := ⟨by rw [K.2.2 1 (by decide) (by decide) (by decide) (by decide)]; exact t2.1, t2.2.1, by rw [K.1 328 (by omega)]; exact t2.2.2⟩
  refine CtI_of (by decide) (Nat.le_of_ble_eq_true rfl) rfl (t_X7_errorPosition_0 hG _ ⟨_, c_mReadText hG (r_331 hG) t2', ?_⟩)
  rintro r' m' ⟨k4, k5, -⟩
  exact ⟨k5.uq k3, I.keep (K.tr (Keep.N k4))⟩
end OP
