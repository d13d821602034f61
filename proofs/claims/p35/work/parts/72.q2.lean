/-! queries of two vertices and more -/
def TwoAns (n : Nat) (A : Nat → Nat → Int32 → Prop) (u v r : Int32) : Prop := (∃ i j, i < n ∧ j < n ∧ u = nI i ∧ v = nI j ∧ A i j r) ∨ (¬ (Vx n u ∧ Vx n v) ∧ r = -1)
theorem TwoAns.of {n i j : Nat} {A : Nat → Nat → Int32 → Prop} {r : Int32} (h : TwoAns n A (nI i) (nI j) r) (hi : i < n) (hj : j < n) (hn : n ≤ 12) : A i j r := by
  rcases h with ⟨a, b, ha, hb, e, e2, h⟩ | ⟨h, -⟩
  · have e := (i_neq (by omega) (by omega)).mp e
    have e2 := (i_neq (by omega) (by omega)).mp e2
    subst e; subst e2
    exact h
  · exact absurd ⟨Vx.of hi hn, Vx.of hj hn⟩ h
theorem TwoAns.no {n : Nat} {A : Nat → Nat → Int32 → Prop} {u v r : Int32} (h : TwoAns n A u v r) (q : ¬ (Vx n u ∧ Vx n v)) (hn : n ≤ 12) : r = -1 := by
  rcases h with ⟨a, b, ha, hb, e, e2, h⟩ | ⟨-, h⟩
  · exact absurd ⟨by rw [e]; exact Vx.of ha hn, by rw [e2]; exact Vx.of hb hn⟩ q
  · exact h
theorem TwoAns.uq {n : Nat} {A : Nat → Nat → Int32 → Prop} {u v r r' : Int32} (hn : n ≤ 12) (hA : ∀ i j, i < n → j < n → A i j r → A i j r' → r = r') (h : TwoAns n A u v r) (g : TwoAns n A u v r') : r = r' := by
  by_cases q : Vx n u ∧ Vx n v
  · obtain ⟨i, hi, rfl⟩ := q.1.ex
    obtain ⟨j, hj, rfl⟩ := q.2.ex
    exact hA i j hi hj (h.of hi hj hn) (g.of hi hj hn)
  · rw [h.no q hn, g.no q hn]
def aEw (n : Nat) (x : Fw) (i j : Nat) (r : Int32) : Prop := (0 < x.2 i j ∧ r = nI (x.2 i j)) ∨ (x.2 i j = 0 ∧ r = -9)
def aDis (n : Nat) (x : Fw) (i j : Nat) (r : Int32) : Prop := (gc n x.2 i j ∧ r = nI (gd n x.2 i j)) ∨ (¬ gc n x.2 i j ∧ r = -9)
def aPth (n : Nat) (x : Fw) (k : Int32) (i j : Nat) (r : Int32) : Prop := (k.toInt < 0 ∧ r = -2) ∨ (0 ≤ k.toInt ∧ PathAns x.2 (gc n x.2) (gd n x.2) (gh n x.2) i j k.toInt r)
def aEnd (n : Nat) (x : Fw) (t : Int32) (i : Nat) (r : Int32) : Prop := (¬ (0 ≤ t.toInt ∧ t.toInt ≤ 1) ∧ r = -2) ∨ ((0 ≤ t.toInt ∧ t.toInt ≤ 1) ∧ EndAns n (gc n x.2) (gd n x.2) i t r)
def aPos (n : Nat) (x : Fw) (o : Obt) (i j : Nat) (r : Int32) : Prop := (0 < x.2 i j ∧ r = nI (Pos x.2 (gc n x.2) (gd n x.2) i j o.2.2.1 o.2.2.2.1 o.2.2.2.2 o.2.1)) ∨ (x.2 i j = 0 ∧ r = -3)
def aMeet (n : Nat) (x : Fw) (u v t : Int32) (r : Int32) : Prop := (¬ (Vx n u ∧ Vx n v ∧ Vx n t) ∧ r = -1) ∨ ∃ i j k, (i < n ∧ j < n ∧ k < n ∧ u = nI i ∧ v = nI j ∧ t = nI k) ∧ ((¬ (gc n x.2 i j ∧ gc n x.2 i k) ∧ r = -9) ∨ ((gc n x.2 i j ∧ gc n x.2 i k) ∧ ∃ z, r = nI z ∧ Meet (gc n x.2) (gd n x.2) i j k z ∧ ∀ y, y < z → ¬ Meet (gc n x.2) (gd n x.2) i j k y))
def aRea (n : Nat) (x : Fw) (v t : Int32) (r : Int64) : Prop := (¬ Vx n v ∧ r = -1) ∨ ∃ i, i < n ∧ v = nI i ∧ ((¬ (0 ≤ t.toInt ∧ t.toInt ≤ 10) ∧ r = -2) ∨ ∃ k, k ≤ 10 ∧ t = nI k ∧ r = lN (Rea n x.1 (gc n x.2) (gh n x.2) (10 - k) i))
def aScr (n : Nat) (x : Fw) (a : Int32) (b : Int64) (r : Int32) : Prop := (ScrBad a b ∧ r = -2) ∨ ∃ k s, ScrIn a b k s ∧ ScrAns n x.2 k s r
section QY
variable {l : Launch} {G : Gx} {mem : Mem} {S : Sta} {n k i j : Nat} {x : Fw} {r r' : Int32}
theorem aEw.uq (h : aEw n x i j r) (g : aEw n x i j r') : r = r' := by
  rcases h with ⟨h1, h2⟩ | ⟨h1, h2⟩ <;> rcases g with ⟨g1, g2⟩ | ⟨g1, g2⟩
  · rw [h2, g2]
  · omega
  · omega
  · rw [h2, g2]
theorem aDis.uq (h : aDis n x i j r) (g : aDis n x i j r') : r = r' := by
  rcases h with ⟨h1, h2⟩ | ⟨h1, h2⟩ <;> rcases g with ⟨g1, g2⟩ | ⟨g1, g2⟩
  · rw [h2, g2]
  · exact absurd h1 g1
  · exact absurd g1 h1
  · rw [h2, g2]
theorem aEnd.uq {t : Int32} (h : aEnd n x t i r) (g : aEnd n x t i r') : r = r' := by
  rcases h with ⟨h1, h2⟩ | ⟨h1, h2⟩ <;> rcases g with ⟨g1, g2⟩ | ⟨g1, g2⟩
  · rw [h2, g2]
  · exact absurd g1 h1
  · exact absurd h1 g1
  · exact h2.uq g2
theorem aPos.uq {o : Obt} (h : aPos n x o i j r) (g : aPos n x o i j r') : r = r' := by
  rcases h with ⟨h1, h2⟩ | ⟨h1, h2⟩ <;> rcases g with ⟨g1, g2⟩ | ⟨g1, g2⟩
  · rw [h2, g2]
  · omega
  · omega
  · rw [h2, g2]
theorem aMeet.uq {u v t : Int32} (hn : n ≤ 12) (h : aMeet n x u v t r) (g : aMeet n x u v t r') : r = r' := by
  have vx : ∀ {a b d : Nat}, (a < n ∧ b < n ∧ d < n ∧ u = nI a ∧ v = nI b ∧ t = nI d) → Vx n u ∧ Vx n v ∧ Vx n t := fun q => ⟨by rw [q.2.2.2.1]; exact Vx.of q.1 hn, by rw [q.2.2.2.2.1]; exact Vx.of q.2.1 hn, by rw [q.2.2.2.2.2]; exact Vx.of q.2.2.1 hn⟩
  rcases h with ⟨h1, h2⟩ | ⟨a, b, d, q, h⟩ <;> rcases g with ⟨g1, g2⟩ | ⟨a', b', d', q', g⟩
  · rw [h2, g2]
  · exact absurd (vx q') h1
  · exact absurd (vx q) g1
  · obtain ⟨q1, q2, q3, q4, q5, q6⟩ := q
    obtain ⟨p1, p2, p3, p4, p5, p6⟩ := q'
    have e1 := (i_neq (by omega) (by omega)).mp (q4.symm.trans p4)
    have e2 := (i_neq (by omega) (by omega)).mp (q5.symm.trans p5)
    have e3 := (i_neq (by omega) (by omega)).mp (q6.symm.trans p6)
    subst e1; subst e2; subst e3
    rcases h with ⟨h1, h2⟩ | ⟨h1, z, h2, h3, h4⟩ <;> rcases g with ⟨g1, g2⟩ | ⟨g1, z', g2, g3, g4⟩
    · rw [h2, g2]
    · exact absurd g1 h1
    · exact absurd h1 g1
    · rw [h2, g2, least_uq h3 h4 g3 g4]
theorem aRea.uq {v t : Int32} {r r' : Int64} (hn : n ≤ 12) (h : aRea n x v t r) (g : aRea n x v t r') : r = r' := by
  rcases h with ⟨h1, h2⟩ | ⟨a, q, e, h⟩ <;> rcases g with ⟨g1, g2⟩ | ⟨a', q', e', g⟩
  · rw [h2, g2]
  · exact absurd (by rw [e']; exact Vx.of q' hn) h1
  · exact absurd (by rw [e]; exact Vx.of q hn) g1
  · have e1 := (i_neq (by omega) (by omega)).mp (e.symm.trans e')
    subst e1
    have vt : ∀ {d : Nat}, d ≤ 10 → t = nI d → 0 ≤ t.toInt ∧ t.toInt ≤ 10 := fun h e => by rw [e, i_nI (by omega)]; omega
    rcases h with ⟨h1, h2⟩ | ⟨d, d1, d2, h2⟩ <;> rcases g with ⟨g1, g2⟩ | ⟨d', f1, f2, g2⟩
    · rw [h2, g2]
    · exact absurd (vt f1 f2) h1
    · exact absurd (vt d1 d2) g1
    · have e2 := (i_neq (by omega) (by omega)).mp (d2.symm.trans f2)
      subst e2
      rw [h2, g2]
theorem aScr.uq {a : Int32} {b : Int64} (h : aScr n x a b r) (g : aScr n x a b r') : r = r' := by
  rcases h with ⟨p1, p2⟩ | ⟨k, s, p1, p2⟩ <;> rcases g with ⟨q1, q2⟩ | ⟨k', s', q1, q2⟩
  · rw [p2, q2]
  · exact (p1.no q1).elim
  · exact (q1.no p1).elim
  · have e1 := (i_neq (by have := p1.2.2.1; omega) (by have := q1.2.2.1; omega)).mp (p1.1.symm.trans q1.1)
    subst e1
    have hp := h_pow p1.2.2.1
    have e2 := congrArg Int64.toInt (p1.2.2.2.1.symm.trans q1.2.2.2.1)
    rw [lN_int (by have := p1.2.2.2.2; omega), lN_int (by have := q1.2.2.2.2; omega)] at e2
    have e2 : s = s' := by omega
    subst e2
    exact p2.uq q2
theorem aPth.uq {t : Int32} (g0 : Gd n x.2) (h : aPth n x t i j r) (g : aPth n x t i j r') : r = r' := by
  rcases h with ⟨h1, h2⟩ | ⟨h1, h2⟩ <;> rcases g with ⟨g1, g2⟩ | ⟨g1, g2⟩
  · rw [h2, g2]
  · omega
  · omega
  · exact h2.uq g0 g2
theorem RdAns.uq {tx : Nat → Nat} {len : Nat} {r r' : Int32} (h : RdAns tx len r) (g : RdAns tx len r') : r = r' := by
  rcases h with ⟨n, E, h1, h2⟩ | ⟨h1, h2⟩ <;> rcases g with ⟨n', E', g1, g2⟩ | ⟨g1, g2⟩
  · rw [h2, g2]
  · rw [h1] at g1; cases g1
  · rw [h1] at g1; cases g1
  · rw [h2, g2]
theorem q_edgeWeight (hG : Mn G) (I : At mem S) (u v : Int32) : CtI l M_X6_edgeWeight G [.ref (gA G 0), .int u, .int v] mem (fun r m => Keep mem m ∧ TwoAns S.1 (aEw S.1 S.2.1) u v r) := by
  obtain ⟨w', n1, hn, hf, hw, h9, g⟩ := I.ex
  refine CtI_of (by decide) (Nat.le_of_ble_eq_true rfl) rfl (t_X6_edgeWeight_0 hG _ _ mem ⟨_, c_hasVertices (f_1 hG) hf hn u v, ?_⟩)
  rintro r m ⟨rfl, rfl⟩
  by_cases q : Vx S.1 u ∧ Vx S.1 v
  · rw [if_pos q]
    obtain ⟨i, hi, rfl⟩ := q.1.ex
    obtain ⟨j, hj, rfl⟩ := q.2.ex
    have be := g.2.2.1 i j
    refine pos_ ⟨_, c_hasEdge (f_1 hG) hf hn hi hj (by omega), ?_⟩
    rintro r m ⟨rfl, rfl⟩
    by_cases e : 0 < S.2.1.2 i j
    · rw [if_pos e]
      refine pos' ⟨_, c_edgeBetween (f_1 hG) hf hn hi hj, ?_⟩
      rintro r m ⟨rfl, rfl⟩
      exact ⟨Keep.rf, Or.inl ⟨i, j, hi, hj, rfl, rfl, Or.inl ⟨e, rfl⟩⟩⟩
    · rw [if_neg e]
      exact neg_ ⟨Keep.rf, Or.inl ⟨i, j, hi, hj, rfl, rfl, Or.inr ⟨by omega, rfl⟩⟩⟩
  · rw [if_neg q]
    exact neg' ⟨Keep.rf, Or.inr ⟨q, rfl⟩⟩
theorem q_distance (hG : Mn G) (I : At mem S) (u v : Int32) : CtI l M_X6_distance G [.ref (gA G 0), .int u, .int v] mem (fun r m => Keep mem m ∧ TwoAns S.1 (aDis S.1 S.2.1) u v r) := by
  obtain ⟨w', n1, hn, hf, hw, h9, g⟩ := I.ex
  have Fc := g.f h9
  refine CtI_of (by decide) (Nat.le_of_ble_eq_true rfl) rfl (t_X6_distance_0 hG _ _ mem ⟨_, c_hasVertices (f_1 hG) hf hn u v, ?_⟩)
  rintro r m ⟨rfl, rfl⟩
  by_cases q : Vx S.1 u ∧ Vx S.1 v
  · rw [if_pos q]
    obtain ⟨i, hi, rfl⟩ := q.1.ex
    obtain ⟨j, hj, rfl⟩ := q.2.ex
    refine pos_ ⟨_, c_measure (s_16 hG) hf Fc, ?_⟩
    rintro m1 ⟨k1, k2⟩
    have K := Keep.o k2 (by decide) (by decide)
    refine ⟨_, c_joined (s_16 hG) k1 Fc (by omega) (by omega), ?_⟩
    rintro r m2 ⟨rfl, rfl⟩
    refine jn (fun e => ⟨K, Or.inl ⟨i, j, hi, hj, rfl, rfl, Or.inr ⟨e, rfl⟩⟩⟩) (fun e => ⟨_, c_between (s_16 hG) k1 Fc (by omega) (by omega), ?_⟩)
    rintro r m3 ⟨rfl, rfl⟩
    exact ⟨K, Or.inl ⟨i, j, hi, hj, rfl, rfl, Or.inl ⟨e, by rw [ifc_t e]⟩⟩⟩
  · rw [if_neg q]
    exact neg' ⟨Keep.rf, Or.inr ⟨q, rfl⟩⟩
theorem q_pathVertex (hG : Mn G) (I : At mem S) (u v t : Int32) : CtI l M_X6_pathVertex G [.ref (gA G 0), .int u, .int v, .int t] mem (fun r m => Keep mem m ∧ TwoAns S.1 (aPth S.1 S.2.1 t) u v r) := by
  obtain ⟨w', n1, hn, hf, hw, h9, g⟩ := I.ex
  have Fc := g.f h9
  refine CtI_of (by decide) (Nat.le_of_ble_eq_true rfl) rfl (t_X6_pathVertex_0 hG _ _ _ mem ⟨_, c_hasVertices (f_1 hG) hf hn u v, ?_⟩)
  rintro r m ⟨rfl, rfl⟩
  by_cases q : Vx S.1 u ∧ Vx S.1 v
  · rw [if_pos q]
    obtain ⟨i, hi, rfl⟩ := q.1.ex
    obtain ⟨j, hj, rfl⟩ := q.2.ex
    refine pos_ ⟨fun z => ⟨_, c_measure (s_16 hG) hf Fc, ?_⟩, fun z => ?_⟩
    · rintro m1 ⟨k1, k2⟩
      have K := Keep.o k2 (by decide) (by decide)
      have hx : 0 ≤ t.toInt := by rw [i_le, i_0] at z; exact z
      refine ⟨_, c_vertexOnPath (s_16 hG) k1 (hf.out k2 (by decide)) Fc hi hj hx, ?_⟩
      rintro r m2 ⟨rfl, hp⟩
      exact ⟨K, Or.inl ⟨i, j, hi, hj, rfl, rfl, Or.inr ⟨hx, hp⟩⟩⟩
    · have hx : t.toInt < 0 := by rw [i_le, i_0] at z; omega
      exact ⟨Keep.rf, Or.inl ⟨i, j, hi, hj, rfl, rfl, Or.inl ⟨hx, rfl⟩⟩⟩
  · rw [if_neg q]
    exact neg' ⟨Keep.rf, Or.inr ⟨q, rfl⟩⟩
theorem q_diameterEnd (hG : Mn G) (I : At mem S) (v t : Int32) : CtI l M_X6_diameterEnd G [.ref (gA G 0), .int v, .int t] mem (fun r m => Keep mem m ∧ OneAns S.1 (aEnd S.1 S.2.1 t) v r) := by
  obtain ⟨w', n1, hn, hf, hw, h9, g⟩ := I.ex
  have Fc := g.f h9
  refine CtI_of (by decide) (Nat.le_of_ble_eq_true rfl) rfl (t_X6_diameterEnd_0 hG _ _ mem ⟨_, c_hasVertex (f_1 hG) hf hn v, ?_⟩)
  rintro r m ⟨rfl, rfl⟩
  by_cases q : Vx S.1 v
  · rw [if_pos q]
    obtain ⟨i, hi, rfl⟩ := q.ex
    refine pos_ ⟨fun z => ⟨_, c_measure (s_16 hG) hf Fc, ?_⟩, fun z => ⟨fun z2 => ⟨_, c_measure (s_16 hG) hf Fc, ?_⟩, fun z2 => ?_⟩⟩
    · rintro m1 ⟨k1, k2⟩
      have K := Keep.o k2 (by decide) (by decide)
      refine ⟨_, c_firstWideEnd (s_16 hG) k1 Fc hi, ?_⟩
      rintro r m2 ⟨rfl, a, rfl, ha⟩
      obtain ⟨b, hb⟩ := AMax_ex (p := gc S.1 S.2.1.2 a) (f := gd S.1 S.2.1.2 a) (k := S.1) ⟨a, ha.1, Fc.tD.rf ha.1⟩
      exact ⟨fun y => absurd z y, fun _ => ⟨K, Or.inl ⟨i, hi, rfl, Or.inr ⟨by rw [z]; decide, a, b, ha, hb, by rw [if_pos z]⟩⟩⟩⟩
    · rintro m1 ⟨k1, k2⟩
      have K := Keep.o k2 (by decide) (by decide)
      refine ⟨_, c_firstWideEnd (s_16 hG) k1 Fc hi, ?_⟩
      rintro r m2 ⟨rfl, a, rfl, ha⟩
      refine ⟨fun _ => ⟨_, c_firstFarthest (s_16 hG) k1 Fc ha.1, ?_⟩, fun y => absurd y z⟩
      rintro r m3 ⟨rfl, b, rfl, hb⟩
      exact ⟨K, Or.inl ⟨i, hi, rfl, Or.inr ⟨by rw [z2]; decide, a, b, ha, hb, by rw [if_neg z]⟩⟩⟩
    · exact ⟨Keep.rf, Or.inl ⟨i, hi, rfl, Or.inl ⟨fun y => by
        rw [i_eq, i_0] at z
        rw [i_eq, i_1] at z2
        omega, rfl⟩⟩⟩
  · rw [if_neg q]
    exact neg' ⟨Keep.rf, Or.inr ⟨q, rfl⟩⟩
theorem q_meeting (hG : Mn G) (I : At mem S) (u v t : Int32) : CtI l M_X6_meeting G [.ref (gA G 0), .int u, .int v, .int t] mem (fun r m => Keep mem m ∧ aMeet S.1 S.2.1 u v t r) := by
  obtain ⟨w', n1, hn, hf, hw, h9, g⟩ := I.ex
  have Fc := g.f h9
  refine CtI_of (by decide) (Nat.le_of_ble_eq_true rfl) rfl (t_X6_meeting_0 hG _ _ _ mem ⟨_, c_hasVertices (f_1 hG) hf hn u v, ?_⟩)
  rintro r m ⟨rfl, rfl⟩
  by_cases q : Vx S.1 u ∧ Vx S.1 v
  · rw [if_pos q]
    refine pos' ⟨_, c_hasVertex (f_1 hG) hf hn t, ?_⟩
    rintro r m ⟨rfl, rfl⟩
    by_cases qx : Vx S.1 t
    · rw [if_pos qx]
      obtain ⟨i, hi, rfl⟩ := q.1.ex
      obtain ⟨j, hj, rfl⟩ := q.2.ex
      obtain ⟨k, hk, rfl⟩ := qx.ex
      refine pos_ ⟨_, c_measure (s_16 hG) hf Fc, ?_⟩
      rintro m1 ⟨k1, k2⟩
      have K := Keep.o k2 (by decide) (by decide)
      refine ⟨_, c_meetingOf (s_16 hG) k1 Fc hi hj hk, ?_⟩
      rintro r m2 ⟨rfl, hp⟩
      exact ⟨K, Or.inr ⟨i, j, k, ⟨hi, hj, hk, rfl, rfl, rfl⟩, hp⟩⟩
    · rw [if_neg qx]
      exact neg' ⟨Keep.rf, Or.inl ⟨fun z => qx z.2.2, rfl⟩⟩
  · rw [if_neg q]
    exact neg_ ⟨Keep.rf, Or.inl ⟨fun z => q ⟨z.1, z.2.1⟩, rfl⟩⟩
theorem q_expectedReach (hG : Mn G) (I : At mem S) (v t : Int32) : CtL l M_X6_expectedReach G [.ref (gA G 0), .int v, .int t] mem (fun r m => Keep mem m ∧ aRea S.1 S.2.1 v t r) := by
  obtain ⟨w', n1, hn, hf, hw, h9, g⟩ := I.ex
  have Fc := g.f h9
  refine CtL_of (by decide) (Nat.le_of_ble_eq_true rfl) rfl (t_X6_expectedReach_0 hG _ _ mem ⟨_, c_hasVertex (f_1 hG) hf hn v, ?_⟩)
  rintro r m ⟨rfl, rfl⟩
  by_cases q : Vx S.1 v
  · rw [if_pos q]
    obtain ⟨i, hi, rfl⟩ := q.ex
    have bad : ¬ (0 ≤ t.toInt ∧ t.toInt ≤ 10) → Keep m m ∧ aRea S.1 S.2.1 (nI i) t (-2) := fun nx => ⟨Keep.rf, Or.inr ⟨i, hi, rfl, Or.inl ⟨nx, rfl⟩⟩⟩
    refine pos_ ⟨fun z => bad (fun y => ?_), fun z => ⟨fun z2 => ⟨_, c_measure (s_16 hG) hf Fc, ?_⟩, fun z2 => bad (fun y => ?_)⟩⟩
    · rw [i_lt, i_0] at z; omega
    · rintro m1 ⟨k1, k2⟩
      rw [i_lt, i_0] at z
      rw [i_le, i_10] at z2
      obtain ⟨d, ht, rfl⟩ : ∃ d : Nat, d < 11 ∧ t = nI d := i_arg (by omega) (by omega)
      have K := Keep.o k2 (by decide) (by decide)
      have e10 : (10 : Int32) - nI d = nI (10 - d) := pk_sub (a := 10) (by omega)
      rw [e10]
      refine ⟨_, c_reachOf (s_16 hG) k1 (hf.out k2 (by decide)) Fc hi (by omega), ?_⟩
      rintro r m2 ⟨rfl, rfl⟩
      exact ⟨K, Or.inr ⟨i, hi, rfl, Or.inr ⟨d, by omega, rfl, by rw [Rea_w hw]⟩⟩⟩
    · rw [i_le, i_10] at z2; omega
  · rw [if_neg q]
    exact neg' ⟨Keep.rf, Or.inl ⟨q, rfl⟩⟩
theorem q_possibleWeights (hG : Mn G) (I : At mem S) (u v : Int32) : CtI l M_X6_possibleWeights G [.ref (gA G 0), .int u, .int v] mem (fun r m => Keep mem m ∧ TwoAns S.1 (aPos S.1 S.2.1 S.2.2.2.2.1) u v r) := by
  obtain ⟨w', n1, hn, hf, hw, h9, g⟩ := I.ex
  have Fc := g.f h9
  obtain ⟨⟨b1, b2, b3, b4, b5⟩, b7⟩ := I.2.2.2.1
  refine CtI_of (by decide) (Nat.le_of_ble_eq_true rfl) rfl (t_X6_possibleWeights_0 hG _ _ mem ⟨_, c_hasVertices (f_1 hG) hf hn u v, ?_⟩)
  rintro r m ⟨rfl, rfl⟩
  by_cases q : Vx S.1 u ∧ Vx S.1 v
  · rw [if_pos q]
    obtain ⟨i, hi, rfl⟩ := q.1.ex
    obtain ⟨j, hj, rfl⟩ := q.2.ex
    have be := g.2.2.1 i j
    refine pos_ ⟨_, c_hasEdge (f_1 hG) hf hn hi hj (by omega), ?_⟩
    rintro r m ⟨rfl, rfl⟩
    by_cases e : 0 < S.2.1.2 i j
    · rw [if_pos e]
      refine pos_ ⟨_, c_measure (s_16 hG) hf Fc, ?_⟩
      rintro m1 ⟨k1, k2⟩
      have K := Keep.o k2 (by decide) (by decide)
      refine ⟨_, c_countWeights hG (s_16 hG) k1 (hf.out k2 (by decide)) Fc e (us := S.2.2.2.2.1.2.2.1) (vs := S.2.2.2.2.1.2.2.2.1) (ds := S.2.2.2.2.1.2.2.2.2) (ct := S.2.2.2.2.1.2.1) ?_ b4 ?_, ?_⟩
      · rw [K.1 291 (by omega)]; exact b3
      · rw [K.1 292 (by omega), K.1 293 (by omega), K.1 294 (by omega)]; exact b7
      · rintro r m2 ⟨rfl, rfl⟩
        exact ⟨K, Or.inl ⟨i, j, hi, hj, rfl, rfl, Or.inl ⟨e, rfl⟩⟩⟩
    · rw [if_neg e]
      exact neg' ⟨Keep.rf, Or.inl ⟨i, j, hi, hj, rfl, rfl, Or.inr ⟨by omega, rfl⟩⟩⟩
  · rw [if_neg q]
    exact neg' ⟨Keep.rf, Or.inr ⟨q, rfl⟩⟩
theorem q_runScript (hG : Mn G) (I : At mem S) (a : Int32) (b : Int64) : CtI l M_X6_runScript G [.ref (gA G 0), .int a, .long b] mem (fun r m => Keep mem m ∧ aScr S.1 S.2.1 a b r) := by
  obtain ⟨w', n1, hn, hf, hw, h9, g⟩ := I.ex
  refine (c_script hG (f_1 hG) (s_45 hG) hf g h9 a b).mono ?_
  rintro r m ⟨k1, hp⟩
  exact ⟨Keep.o k1 (by decide) (by decide), hp⟩
theorem q_randomChanges (hG : Mn G) (I : At mem S) (s : Int64) (a : Int32) : CtI l M_X6_randomChanges G [.ref (gA G 0), .long s, .int a] mem (fun r m => Keep mem m ∧ RndAns S.1 S.2.1.2 s a r) := by
  obtain ⟨w', n1, hn, hf, hw, h9, g⟩ := I.ex
  refine (c_random hG (f_1 hG) (s_45 hG) hf g h9 s a).mono ?_
  rintro r m ⟨k1, hp⟩
  exact ⟨Keep.o k1 (by decide) (by decide), hp⟩
theorem q_errorPosition (hG : Mn G) (I : At mem S) : CtI l M_X6_errorPosition G [.ref (gA G 0)] mem (fun r m => Keep mem m ∧ RdAns S.2.2.2.2.2.2 S.2.2.2.2.2.1 r) := by
  have t1 := I.2.2.2.2
  refine CtI_of (by decide) (Nat.le_of_ble_eq_true rfl) rfl (t_X6_errorPosition_0 hG mem ⟨_, c_readInto hG (f_30 hG) (by decide) t1, ?_⟩)
  rintro r m ⟨k1, k2, k3, -⟩
  exact ⟨Keep.rd k2 t1 k1, k3⟩
end QY
