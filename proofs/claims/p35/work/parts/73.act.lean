/-! actions: what each answers, and the state behind it -/
def acted (S : Sta) (y : Fw) : Sta := (S.1, y, S.2.1 :: S.2.2.1.take 13, S.2.2.2)
def texted (S : Sta) (t : Txt) : Sta := (S.1, S.2.1, S.2.2.1, S.2.2.2.1, S.2.2.2.2.1, t)
def savedS (S : Sta) (s : Nat) : Sta := (S.1, S.2.1, S.2.2.1, (fun k => if k = s then some S.2.1 else S.2.2.2.1 k), S.2.2.2.2)
def seenS (S : Sta) (a b d : Nat) : Sta := (S.1, S.2.1, S.2.2.1, S.2.2.2.1, ((S.2.2.2.2.1.1 + 1) % 6, min (S.2.2.2.2.1.2.1 + 1) 6, updW S.2.2.2.2.1.2.2.1 S.2.2.2.2.1.1 a, updW S.2.2.2.2.1.2.2.2.1 S.2.2.2.2.1.1 b, updW S.2.2.2.2.1.2.2.2.2 S.2.2.2.2.1.1 d), S.2.2.2.2.2)
def Obk (u v d : Int32) : Prop := (0 ≤ u.toInt ∧ u.toInt ≤ 11) ∧ (0 ≤ v.toInt ∧ v.toInt ≤ 11) ∧ (0 ≤ d.toInt ∧ d.toInt ≤ 999)
section AC
variable {l : Launch} {G : Gx} {mem m m' : Mem} {S : Sta} {n : Nat} {x : Fw}
theorem Hi.push {m1 m5 : Mem} {h : List Fw} {nx : Nat} (a3 : nx < 14) (a4 : h.length ≤ 14) (a5 : ∀ j y, h[j]? = some y → Fok m1 (81 + 15 * ((nx + 13 - j) % 14)) n y) (c1 : m5 79 1 = nI ((nx + 1) % 14)) (c2 : m5 79 2 = nI (min (h.length + 1) 14)) (new : Fok m5 (81 + 15 * nx) n x) (c5 : ∀ a, 81 ≤ a → a < 291 → (a < 81 + 15 * nx ∨ 81 + 15 * nx + 15 ≤ a) → m5 a = m1 a) : Hi n m5 (x :: h.take 13) := by
  have b : (nx + 1) % 14 < 14 := Nat.mod_lt _ (by decide)
  have el : (x :: h.take 13).length = min (h.length + 1) 14 := by
    rw [List.length_cons, List.length_take]; omega
  refine ⟨(nx + 1) % 14, c1, b, by rw [el]; exact c2, by rw [el]; exact Nat.min_le_right _ _, fun j y hj => ?_⟩
  cases j with
  | zero =>
    have ei : ((nx + 1) % 14 + 13 - 0) % 14 = nx := by omega
    rw [ei]
    have e : x = y := by simpa using hj
    rw [← e]
    exact new
  | succ k =>
    have hk : (h.take 13)[k]? = some y := by simpa using hj
    have lk : k < 13 := by
      have := (List.getElem?_eq_some_iff.mp hk).1
      rw [List.length_take] at this
      omega
    rw [List.getElem?_take_of_lt lk] at hk
    have ei : ((nx + 1) % 14 + 13 - (k + 1)) % 14 = (nx + 13 - k) % 14 := by omega
    have ne : (nx + 13 - k) % 14 ≠ nx := by omega
    have lt : (nx + 13 - k) % 14 < 14 := Nat.mod_lt _ (by decide)
    rw [ei]
    exact (a5 k y hk).mv (fun a b1 b2 => c5 a (by omega) (by omega) (by omega))
/-- the state is remembered -/
theorem rem_at (hG : Mn G) (I : At mem S) : ∃ Q : Mem → Prop, CtV l M_X2_remember G [.ref (gA G 79), .ref (gA G 1)] mem Q ∧ ∀ m, Q m → (∃ w', FoAt m 1 S.1 w' S.2.1.2 ∧ (∀ v, v < S.1 → w' v = S.2.1.1 v) ∧ (∀ v, v < S.1 → w' v ≤ 99)) ∧ ∀ m' x', Out 1 16 m m' → Fok m' 1 S.1 x' → At m' (acted S x') := by
  obtain ⟨w', n1, hn, hf, hw, h9, g⟩ := I.ex
  obtain ⟨i1, ⟨nx, a1, a2, a3, a4, a5⟩, i3, i4, i5⟩ := I
  refine ⟨_, c_remember hG (f_1 hG) (by decide) hf a1 a3 a2 a4, ?_⟩
  rintro m2 ⟨e1, e2, e3, e4⟩
  refine ⟨⟨w', hf.mv (fun a b1 b2 => e4 a (by omega) (by omega)), hw, h9⟩, fun m' x' ho hx => ?_⟩
  have o : ∀ a, 16 ≤ a → a ≠ 79 → (a < 81 + 15 * nx ∨ 81 + 15 * nx + 15 ≤ a) → m' a = mem a := fun a b1 b2 b3 => by rw [ho a (by omega), e4 a b2 b3]
  refine ⟨hx, ?_, i3.mv (fun a b1 b2 => o a (by omega) (by omega) (by omega)), i4.mv (fun a b1 b2 => o a (by omega) (by omega) (by omega)), i5.mv (by rw [o 76 (by omega) (by omega) (by omega)]) (o 77 (by omega) (by omega) (by omega))⟩
  refine Hi.push a2 a4 a5 (by rw [ho 79 (by omega)]; exact e1) (by rw [ho 79 (by omega)]; exact e2) ⟨w', e3.mv (fun a b1 b2 => ho a (by omega)), hw, i1.choose_spec.2.2.1, g⟩ (fun a b1 b2 b3 => o a (by omega) (by omega) b3)
theorem a_link (hG : Mn G) (I : At mem S) (u v t : Int32) : CtI l M_X6_link G [.ref (gA G 0), .int u, .int v, .int t] mem (fun r m => (¬ r = 0 ∧ LinkErr S.1 (gc S.1 S.2.1.2) u v t r ∧ At m S) ∨ ∃ i j k, (i < S.1 ∧ j < S.1 ∧ u = nI i ∧ v = nI j ∧ t = nI k ∧ 1 ≤ k ∧ k ≤ 99 ∧ ¬ gc S.1 S.2.1.2 i j) ∧ r = nI (cntE (updE S.2.1.2 i j k) S.1 S.1) ∧ At m (acted S (S.2.1.1, updE S.2.1.2 i j k))) := by
  obtain ⟨w', n1, hn, hf, hw, h9, g⟩ := I.ex
  have Fc := g.f h9
  refine CtI_of (by decide) (Nat.le_of_ble_eq_true rfl) rfl (t_X6_link_0 hG _ _ _ mem ⟨_, c_linkErr (s := 16) (s_16 hG) hf Fc u v t, ?_⟩)
  rintro y m1 ⟨k1, k2⟩
  have I1 := I.keep (Keep.o k1 (by decide) (by decide))
  refine ⟨fun z => ?_, fun z => Or.inl ⟨z, k2, I1⟩⟩
  subst z
  rcases (id k2 : LinkErr S.1 (gc S.1 S.2.1.2) u v t 0) with ⟨-, q⟩ | ⟨i, j, ⟨hi, hj, rfl, rfl⟩, ⟨-, q⟩ | ⟨qx, ⟨-, q⟩ | ⟨nc, -⟩⟩⟩
  · exact absurd q (by decide)
  · exact absurd q (by decide)
  · exact absurd q (by decide)
  · obtain ⟨k, ht, rfl⟩ : ∃ k : Nat, k < 100 ∧ t = nI k := i_arg (by omega) (by omega)
    have t1 : 1 ≤ k := by have := qx.1; rw [i_nI (by omega)] at this; omega
    have g' := g.link hi hj nc t1 (by omega)
    obtain ⟨Q, hQ, hq⟩ := rem_at (l := l) hG I1
    refine ⟨Q, hQ, fun m2 h2 => ?_⟩
    obtain ⟨⟨w2, f2, w3, w4⟩, h3⟩ := hq m2 h2
    refine ⟨_, c_putEdge (f_1 hG) f2 hn hi hj, ?_⟩
    rintro m3 ⟨e5, e6⟩
    refine ⟨_, c_edgeCount (f_1 hG) e5 hn (fun u v _ _ => by have := g'.2.2.1 u v; omega), ?_⟩
    rintro r m4 ⟨rfl, rfl⟩
    exact Or.inr ⟨i, j, k, ⟨hi, hj, rfl, rfl, rfl, t1, by omega, nc⟩, rfl, h3 _ (S.2.1.1, updE S.2.1.2 i j k) e6 ⟨w2, e5, w3, I.1.choose_spec.2.2.1, g'⟩⟩
theorem a_cut (hG : Mn G) (I : At mem S) (u v : Int32) : CtI l M_X6_cut G [.ref (gA G 0), .int u, .int v] mem (fun r m => (¬ r = 0 ∧ EdgeErr S.1 S.2.1.2 u v 1 r ∧ At m S) ∨ ∃ i j, (i < S.1 ∧ j < S.1 ∧ u = nI i ∧ v = nI j ∧ 0 < S.2.1.2 i j) ∧ r = nI (S.2.1.2 i j) ∧ At m (acted S (S.2.1.1, updE S.2.1.2 i j 0))) := by
  obtain ⟨w', n1, hn, hf, hw, h9, g⟩ := I.ex
  have Fc := g.f h9
  refine CtI_of (by decide) (Nat.le_of_ble_eq_true rfl) rfl (t_X6_cut_0 hG _ _ mem ⟨_, c_cutErr (f_1 hG) hf Fc u v, ?_⟩)
  rintro y m1 ⟨rfl, k2⟩
  refine ⟨fun z => ?_, fun z => Or.inl ⟨z, k2, I⟩⟩
  subst z
  rcases (id k2 : EdgeErr S.1 S.2.1.2 u v 1 0) with ⟨-, q⟩ | ⟨i, j, ⟨hi, hj, rfl, rfl⟩, ⟨-, q⟩ | ⟨qx, ⟨-, q⟩ | ⟨e0, -⟩⟩⟩
  · exact absurd q (by decide)
  · exact absurd q (by decide)
  · exact absurd q (by decide)
  · refine ⟨_, c_edgeBetween (f_1 hG) hf hn hi hj, ?_⟩
    rintro r m ⟨rfl, rfl⟩
    obtain ⟨Q, hQ, hq⟩ := rem_at (l := l) hG I
    refine ⟨Q, hQ, fun m2 h2 => ?_⟩
    obtain ⟨⟨w2, f2, w3, w4⟩, h3⟩ := hq m2 h2
    refine ⟨_, c_putEdge (x := 0) (f_1 hG) f2 hn hi hj, ?_⟩
    rintro m3 ⟨e5, e6⟩
    exact Or.inr ⟨i, j, ⟨hi, hj, rfl, rfl, e0⟩, rfl, h3 _ (S.2.1.1, updE S.2.1.2 i j 0) e6 ⟨w2, e5, w3, I.1.choose_spec.2.2.1, g.cut e0⟩⟩
theorem a_setEdgeWeight (hG : Mn G) (I : At mem S) (u v t : Int32) : CtI l M_X6_setEdgeWeight G [.ref (gA G 0), .int u, .int v, .int t] mem (fun r m => (¬ r = 0 ∧ EdgeErr S.1 S.2.1.2 u v t r ∧ At m S) ∨ ∃ i j k, (i < S.1 ∧ j < S.1 ∧ u = nI i ∧ v = nI j ∧ t = nI k ∧ 1 ≤ k ∧ k ≤ 99 ∧ 0 < S.2.1.2 i j) ∧ r = nI (S.2.1.2 i j) ∧ At m (acted S (S.2.1.1, updE S.2.1.2 i j k))) := by
  obtain ⟨w', n1, hn, hf, hw, h9, g⟩ := I.ex
  refine CtI_of (by decide) (Nat.le_of_ble_eq_true rfl) rfl (t_X6_setEdgeWeight_0 hG _ _ _ mem ⟨_, c_hasVertices (f_1 hG) hf hn u v, ?_⟩)
  rintro r m ⟨rfl, rfl⟩
  by_cases q : Vx S.1 u ∧ Vx S.1 v
  · rw [if_pos q]
    obtain ⟨i, hi, rfl⟩ := q.1.ex
    obtain ⟨j, hj, rfl⟩ := q.2.ex
    have be := g.2.2.1 i j
    refine pos_ ⟨fun z => Or.inl ⟨by decide, Or.inr ⟨i, j, ⟨hi, hj, rfl, rfl⟩, Or.inl ⟨fun y => ?_, rfl⟩⟩, I⟩, fun z => ⟨fun z2 => ⟨_, c_hasEdge (f_1 hG) hf hn hi hj (by omega), ?_⟩, fun z2 => Or.inl ⟨by decide, Or.inr ⟨i, j, ⟨hi, hj, rfl, rfl⟩, Or.inl ⟨fun y => ?_, rfl⟩⟩, I⟩⟩⟩
    · rw [i_lt, i_1] at z; omega
    · rintro r m ⟨rfl, rfl⟩
      rw [i_lt, i_1] at z
      rw [i_le, i_99] at z2
      have qx : 1 ≤ t.toInt ∧ t.toInt ≤ 99 := by omega
      by_cases e0 : 0 < S.2.1.2 i j
      · rw [if_pos e0]
        obtain ⟨k, ht, rfl⟩ : ∃ k : Nat, k < 100 ∧ t = nI k := i_arg (by omega) (by omega)
        have t1 : 1 ≤ k := by have := qx.1; rw [i_nI (by omega)] at this; omega
        refine pos_ ⟨_, c_edgeBetween (f_1 hG) hf hn hi hj, ?_⟩
        rintro r m ⟨rfl, rfl⟩
        obtain ⟨Q, hQ, hq⟩ := rem_at (l := l) hG I
        refine ⟨Q, hQ, fun m2 h2 => ?_⟩
        obtain ⟨⟨w2, f2, w3, w4⟩, h3⟩ := hq m2 h2
        refine ⟨_, c_putEdge (f_1 hG) f2 hn hi hj, ?_⟩
        rintro m3 ⟨e5, e6⟩
        exact Or.inr ⟨i, j, k, ⟨hi, hj, rfl, rfl, rfl, t1, by omega, e0⟩, rfl, h3 _ (S.2.1.1, updE S.2.1.2 i j k) e6 ⟨w2, e5, w3, I.1.choose_spec.2.2.1, g.rew e0 t1 (by omega)⟩⟩
      · rw [if_neg e0]
        exact neg' (Or.inl ⟨by decide, Or.inr ⟨i, j, ⟨hi, hj, rfl, rfl⟩, Or.inr ⟨qx, Or.inl ⟨by omega, rfl⟩⟩⟩, I⟩)
    · rw [i_le, i_99] at z2; omega
  · rw [if_neg q]
    exact neg' (Or.inl ⟨by decide, Or.inl ⟨q, rfl⟩, I⟩)
theorem a_setVertexWeight (hG : Mn G) (I : At mem S) (v t : Int32) : CtI l M_X6_setVertexWeight G [.ref (gA G 0), .int v, .int t] mem (fun r m => (((¬ Vx S.1 v ∧ r = -1) ∨ (Vx S.1 v ∧ ¬ (0 ≤ t.toInt ∧ t.toInt ≤ 99) ∧ r = -2)) ∧ At m S) ∨ ∃ i k, (i < S.1 ∧ v = nI i ∧ t = nI k ∧ k ≤ 99) ∧ r = nI (S.2.1.1 i) ∧ At m (acted S (updW S.2.1.1 i k, S.2.1.2))) := by
  obtain ⟨w', n1, hn, hf, hw, h9, g⟩ := I.ex
  refine CtI_of (by decide) (Nat.le_of_ble_eq_true rfl) rfl (t_X6_setVertexWeight_0 hG _ _ mem ⟨_, c_hasVertex (f_1 hG) hf hn v, ?_⟩)
  rintro r m ⟨rfl, rfl⟩
  by_cases q : Vx S.1 v
  · rw [if_pos q]
    obtain ⟨i, hi, rfl⟩ := q.ex
    refine pos_ ⟨fun z => Or.inl ⟨Or.inr ⟨q, fun y => ?_, rfl⟩, I⟩, fun z => ⟨fun z2 => ⟨_, c_weightOf (f_1 hG) hf hn hi, ?_⟩, fun z2 => Or.inl ⟨Or.inr ⟨q, fun y => ?_, rfl⟩, I⟩⟩⟩
    · rw [i_lt, i_0] at z; omega
    · rintro r m ⟨rfl, rfl⟩
      rw [i_lt, i_0] at z
      rw [i_le, i_99] at z2
      obtain ⟨k, ht, rfl⟩ : ∃ k : Nat, k < 100 ∧ t = nI k := i_arg (by omega) (by omega)
      obtain ⟨Q, hQ, hq⟩ := rem_at (l := l) hG I
      refine ⟨Q, hQ, fun m2 h2 => ?_⟩
      obtain ⟨⟨w2, f2, w3, w4⟩, h3⟩ := hq m2 h2
      refine ⟨_, c_putWeight (f_1 hG) f2 hn hi, ?_⟩
      rintro m3 ⟨e5, e6⟩
      refine Or.inr ⟨i, k, ⟨hi, rfl, rfl, by omega⟩, by rw [hw i hi], h3 _ (updW S.2.1.1 i k, S.2.1.2) e6 ⟨updW w2 i k, e5, fun v hv => ?_, fun v hv => ?_, g⟩⟩
      · show updW w2 i k v = updW S.2.1.1 i k v
        unfold updW
        by_cases e : v = i
        · rw [if_pos e, if_pos e]
        · rw [if_neg e, if_neg e]; exact w3 v hv
      · show updW S.2.1.1 i k v ≤ 99
        unfold updW
        by_cases e : v = i
        · rw [if_pos e]; omega
        · rw [if_neg e]; exact I.1.choose_spec.2.2.1 v hv
    · rw [i_le, i_99] at z2; omega
  · rw [if_neg q]
    exact neg' (Or.inl ⟨Or.inl ⟨q, rfl⟩, I⟩)
theorem a_undo (hG : Mn G) (I : At mem S) : CtI l M_X6_undo G [.ref (gA G 0)] mem (fun r m => (S.2.2.1 = [] ∧ r = -3 ∧ At m S) ∨ ∃ y t, S.2.2.1 = y :: t ∧ r = nI t.length ∧ At m (S.1, y, t, S.2.2.2)) := by
  have I0 := I
  obtain ⟨i1, ⟨nx, a1, a2, a3, a4, a5⟩, i3, i4, i5⟩ := I
  cases hh : S.2.2.1 with
  | nil =>
    rw [hh] at a3
    refine CtI_of (by decide) (Nat.le_of_ble_eq_true rfl) rfl (t_X6_undo_0 hG mem ⟨_, c_takeBack0 hG (f_1 hG) a3, ?_⟩)
    rintro r m ⟨rfl, rfl⟩
    exact neg_ (Or.inl ⟨rfl, rfl, I0⟩)
  | cons y t =>
    rw [hh] at a3 a4 a5
    obtain ⟨w', b1, b2, b3, b4⟩ := a5 0 y rfl
    have by14 : (nx + 13) % 14 < 14 := Nat.mod_lt _ (by decide)
    have lt : (y :: t).length = t.length + 1 := List.length_cons
    rw [lt] at a3 a4
    have a4 : t.length + 1 ≤ 14 := a4
    refine CtI_of (by decide) (Nat.le_of_ble_eq_true rfl) rfl (t_X6_undo_0 hG mem ⟨_, c_takeBack hG (f_1 hG) (by decide) a1 a3 a2 (by omega) a4 b1, ?_⟩)
    rintro r m1 ⟨rfl, e1, e2, e3, e4⟩
    refine pos' ⟨fun r m => m = m1 ∧ r = m1 79 2, c_hsize hG, ?_⟩
    rintro r m ⟨rfl, rfl⟩
    have mo : ∀ a, 16 ≤ a → a ≠ 79 → m a = mem a := fun a h h2 => e4 a h2 (by omega)
    refine Or.inr ⟨y, t, rfl, by rw [e2]; rfl, ⟨w', e3, b2, b3, b4⟩, ⟨(nx + 13) % 14, e1, by14, e2, (show t.length ≤ 14 by omega), fun j z hj => ?_⟩, i3.mv (fun a q1 q2 => mo a (by omega) (by omega)), i4.mv (fun a q1 q2 => mo a (by omega) (by omega)), i5.mv (by rw [mo 76 (by omega) (by omega)]) (mo 77 (by omega) (by omega))⟩
    have := a5 (j + 1) z (by simpa using hj)
    have ei : ((nx + 13) % 14 + 13 - j) % 14 = (nx + 13 - (j + 1)) % 14 := by
      have hj' : t[j]? = some z := hj
      have := (List.getElem?_eq_some_iff.mp hj').1
      omega
    have lt : (nx + 13 - (j + 1)) % 14 < 14 := Nat.mod_lt _ (by decide)
    rw [ei]
    exact this.mv (fun a q1 q2 => mo a (by omega) (by omega))
theorem a_observe (hG : Mn G) (I : At mem S) (u v d : Int32) : CtI l M_X6_observe G [.ref (gA G 0), .int u, .int v, .int d] mem (fun r m => (¬ Obk u v d ∧ r = -2 ∧ At m S) ∨ ∃ a b e, (u = nI a ∧ v = nI b ∧ d = nI e ∧ a < 12 ∧ b < 12 ∧ e < 1000) ∧ r = nI (min (S.2.2.2.2.1.2.1 + 1) 6) ∧ At m (seenS S a b e)) := by
  have I0 := I
  obtain ⟨i1, i2, i3, ⟨⟨b1, b2, b3, b4, b5⟩, b7⟩, i5⟩ := I
  have bad : ¬ Obk u v d → (¬ Obk u v d ∧ (-2 : Int32) = -2 ∧ At mem S) ∨ ∃ a b e, (u = nI a ∧ v = nI b ∧ d = nI e ∧ a < 12 ∧ b < 12 ∧ e < 1000) ∧ (-2 : Int32) = nI (min (S.2.2.2.2.1.2.1 + 1) 6) ∧ At mem (seenS S a b e) := fun nb => Or.inl ⟨nb, rfl, I0⟩
  refine CtI_of (by decide) (Nat.le_of_ble_eq_true rfl) rfl (t_X6_observe_0 hG _ _ _ mem ⟨fun z => bad (fun y => ?_), fun z1 => ⟨fun z => bad (fun y => ?_), fun z2 => ⟨fun z => bad (fun y => ?_), fun z3 => ⟨fun z4 => ⟨fun z => bad (fun y => ?_), fun z5 => ⟨fun z6 => ?_, fun z => bad (fun y => ?_)⟩⟩, fun z => bad (fun y => ?_)⟩⟩⟩⟩)
  · have := y.1; rw [i_lt, i_0] at z; omega
  · have := y.1; rw [i_le, i_12] at z; omega
  · have := y.2.1; rw [i_lt, i_0] at z; omega
  · have := y.2.2; rw [i_lt, i_0] at z; omega
  · rw [i_lt, i_0] at z1 z3 z5
    rw [i_le, i_12] at z2
    rw [i_lt, i_12] at z4
    rw [i_le, i_999] at z6
    obtain ⟨u', hu, rfl⟩ : ∃ t : Nat, t < 12 ∧ u = nI t := i_arg (by omega) (by omega)
    obtain ⟨v', hv, rfl⟩ : ∃ t : Nat, t < 12 ∧ v = nI t := i_arg (by omega) (by omega)
    obtain ⟨d', hd, rfl⟩ : ∃ t : Nat, t < 1000 ∧ d = nI t := i_arg (by omega) (by omega)
    refine ⟨_, c_store hG _ _ _ b1 b3 b2 b4, ?_⟩
    rintro r m1 ⟨rfl, e1, e2, e3, e4, e5, e6⟩
    refine Or.inr ⟨u', v', d', ⟨rfl, rfl, rfl, hu, hv, hd⟩, rfl, i1.mv (fun a q1 q2 => e6 a (by omega)), i2.mv (fun a q1 q2 => e6 a (by omega)), i3.mv (fun a q1 q2 => e6 a (by omega)), ⟨⟨e1, Nat.mod_lt _ (by decide), e2, Nat.min_le_right _ _, fun h => ?_⟩, fun i hi => ?_⟩, i5.mv (by rw [e6 76 (by omega)]) (e6 77 (by omega))⟩
    · have h : min (S.2.2.2.2.1.2.1 + 1) 6 < 6 := h
      show (S.2.2.2.2.1.1 + 1) % 6 = min (S.2.2.2.2.1.2.1 + 1) 6
      have : S.2.2.2.2.1.2.1 < 6 := by
        rcases Nat.lt_or_ge S.2.2.2.2.1.2.1 6 with q | q
        · exact q
        · rw [Nat.min_eq_right (by omega)] at h; omega
      have := b5 this
      rw [Nat.min_eq_left (by omega)] at h ⊢
      omega
    · have hi : i < min (S.2.2.2.2.1.2.1 + 1) 6 := hi
      have hi1 : i < S.2.2.2.2.1.2.1 + 1 := Nat.lt_of_lt_of_le hi (Nat.min_le_left _ _)
      have hi2 : i < 6 := Nat.lt_of_lt_of_le hi (Nat.min_le_right _ _)
      show m1 292 i = nI (updW S.2.2.2.2.1.2.2.1 S.2.2.2.2.1.1 u' i) ∧ m1 293 i = nI (updW S.2.2.2.2.1.2.2.2.1 S.2.2.2.2.1.1 v' i) ∧ m1 294 i = nI (updW S.2.2.2.2.1.2.2.2.2 S.2.2.2.2.1.1 d' i) ∧ updW S.2.2.2.2.1.2.2.1 S.2.2.2.2.1.1 u' i < 12 ∧ updW S.2.2.2.2.1.2.2.2.1 S.2.2.2.2.1.1 v' i < 12 ∧ updW S.2.2.2.2.1.2.2.2.2 S.2.2.2.2.1.1 d' i < 1000
      rw [e3, e4, e5]
      unfold updW upd
      by_cases e : i = S.2.2.2.2.1.1
      · simp only [if_pos e]; exact ⟨trivial, trivial, trivial, hu, hv, hd⟩
      · simp only [if_neg e]
        refine b7 i ?_
        by_cases c : S.2.2.2.2.1.2.1 < 6
        · have := b5 c; omega
        · omega
  · have := y.2.2; rw [i_le, i_999] at z; omega
  · have := y.2.1; rw [i_lt, i_12] at z; omega
theorem a_save (hG : Mn G) (I : At mem S) (t : Int32) : CtI l M_X6_save G [.ref (gA G 0), .int t] mem (fun r m => (¬ (0 ≤ t.toInt ∧ t.toInt ≤ 1) ∧ r = -1 ∧ At m S) ∨ ∃ s, s < 2 ∧ t = nI s ∧ r = nI (cntE S.2.1.2 S.1 S.1) ∧ At m (savedS S s)) := by
  have I0 := I
  obtain ⟨w', n1, hn, hf, hw, h9, g⟩ := I.ex
  obtain ⟨i1, i2, i3, i4, i5⟩ := I
  refine CtI_of (by decide) (Nat.le_of_ble_eq_true rfl) rfl (t_X6_save_0 hG _ mem ⟨fun z => Or.inl ⟨fun y => ?_, rfl, I0⟩, fun z1 => ⟨fun z2 => ?_, fun z => Or.inl ⟨fun y => ?_, rfl, I0⟩⟩⟩)
  · rw [i_lt, i_0] at z; omega
  · rw [i_lt, i_0] at z1
    rw [i_lt, i_2] at z2
    obtain ⟨s, hs, rfl⟩ : ∃ t' : Nat, t' < 2 ∧ t = nI t' := i_arg (by omega) (by omega)
    rw [i_cl (by omega)]
    refine ⟨i_in (by omega) (by decide), _, c_become (Fo_slot hG hs) (f_1 hG) hf (by omega), ?_⟩
    rintro m1 ⟨e1, e2⟩
    have o1 : ∀ a, a ≠ 326 → (a < 296 + 15 * s ∨ 296 + 15 * s + 15 ≤ a) → wr m1 326 s 1 a = mem a := fun a q1 q2 => by rw [wr_n q1]; exact e2 a q2
    have v326 : ∀ j, wr m1 326 s 1 326 j = if j = s then 1 else mem 326 j := fun j => by
      rw [wr_at, e2 326 (by omega)]
      by_cases e : j = s
      · rw [if_pos ⟨rfl, e⟩, if_pos e]
      · rw [if_neg (fun z => e z.2), if_neg e]
    have hsn : FoAt (wr m1 326 s 1) (296 + 15 * s) S.1 w' S.2.1.2 := e1.mv (fun a b1 b2 => wr_n (by omega))
    generalize wr m1 326 s 1 = m2 at o1 v326 hsn ⊢
    have hf2 : FoAt m2 1 S.1 w' S.2.1.2 := hf.mv (fun a b1 b2 => o1 a (by omega) (by omega))
    refine ⟨i_in (by omega) (by decide), _, c_edgeCount (f_1 hG) hf2 hn (fun u v _ _ => by have := g.2.2.1 u v; omega), ?_⟩
    rintro r m3 ⟨rfl, rfl⟩
    refine Or.inr ⟨s, hs, rfl, rfl, i1.mv (fun a b1 b2 => o1 a (by omega) (by omega)), i2.mv (fun a b1 b2 => o1 a (by omega) (by omega)), fun k hk => ?_, i4.mv (fun a b1 b2 => o1 a (by omega) (by omega)), i5.mv (by rw [o1 76 (by omega) (by omega)]) (o1 77 (by omega) (by omega))⟩
    show ((if k = s then some S.2.1 else S.2.2.2.1 k) = none → m3 326 k = 0) ∧ ∀ y, (if k = s then some S.2.1 else S.2.2.2.1 k) = some y → m3 326 k = 1 ∧ Fok m3 (296 + 15 * k) S.1 y
    rw [v326]
    by_cases e : k = s
    · rw [if_pos e, if_pos e]
      refine ⟨fun z => (by cases z), fun y hy => ⟨rfl, ?_⟩⟩
      cases hy
      subst e
      exact ⟨w', hsn, hw, i1.choose_spec.2.2.1, g⟩
    · rw [if_neg e, if_neg e]
      exact ⟨(i3 k hk).1, fun y hy => ⟨((i3 k hk).2 y hy).1, ((i3 k hk).2 y hy).2.mv (fun a b1 b2 => o1 a (by omega) (by omega))⟩⟩
  · rw [i_lt, i_2] at z; omega
theorem a_restore (hG : Mn G) (I : At mem S) (t : Int32) : CtI l M_X6_restore G [.ref (gA G 0), .int t] mem (fun r m => (¬ (0 ≤ t.toInt ∧ t.toInt ≤ 1) ∧ r = -1 ∧ At m S) ∨ ∃ s, s < 2 ∧ t = nI s ∧ ((S.2.2.2.1 s = none ∧ r = -3 ∧ At m S) ∨ ∃ y, S.2.2.2.1 s = some y ∧ r = nI (cntE y.2 S.1 S.1) ∧ At m (S.1, y, [], S.2.2.2))) := by
  have I0 := I
  obtain ⟨i1, ⟨nx, a1, a2, -⟩, i3, i4, i5⟩ := I
  refine CtI_of (by decide) (Nat.le_of_ble_eq_true rfl) rfl (t_X6_restore_0 hG _ mem ⟨fun z => Or.inl ⟨fun y => ?_, rfl, I0⟩, fun z1 => ⟨fun z2 => ?_, fun z => Or.inl ⟨fun y => ?_, rfl, I0⟩⟩⟩)
  · rw [i_lt, i_0] at z; omega
  · rw [i_lt, i_0] at z1
    rw [i_lt, i_2] at z2
    obtain ⟨s, hs, rfl⟩ : ∃ t' : Nat, t' < 2 ∧ t = nI t' := i_arg (by omega) (by omega)
    have sin := i_in (k := s) (n := 2) (by omega) (by decide)
    obtain ⟨c1, c2⟩ := i3 s hs
    rw [i_cl (by omega)]
    cases hsl : S.2.2.2.1 s with
    | none =>
      have z0 := c1 hsl
      refine ⟨sin, fun z => absurd z0 z, fun _ => Or.inr ⟨s, hs, rfl, Or.inl ⟨hsl, rfl, I0⟩⟩⟩
    | some y =>
      obtain ⟨z1, w', b1, b2, b3, b4⟩ := c2 y hsl
      have hn := b4.1.2
      refine ⟨sin, fun _ => ⟨sin, ?_⟩, fun z => absurd (z1.symm.trans z) (by decide)⟩
      refine ⟨_, c_become (f_1 hG) (Fo_slot hG hs) b1 (by omega), ?_⟩
      rintro m1 ⟨e1, e2⟩
      refine ⟨_, c_forget hG, ?_⟩
      rintro m2 rfl
      have f2 : FoAt (wr m1 79 2 0) 1 S.1 w' y.2 := e1.mv (fun a b1 b2 => wr_n (by omega))
      have o1 : ∀ a, a ≠ 79 → 16 ≤ a → wr m1 79 2 0 a = mem a := fun a q1 q2 => by rw [wr_n q1]; exact e2 a (by omega)
      have v1 : wr m1 79 2 0 79 1 = nI nx := by rw [wr_at, if_neg (by omega), e2 79 (by omega)]; exact a1
      have v2 : wr m1 79 2 0 79 2 = nI 0 := by rw [wr_at, if_pos ⟨rfl, rfl⟩]; rfl
      generalize wr m1 79 2 0 = m2 at f2 o1 v1 v2 ⊢
      refine ⟨_, c_edgeCount (f_1 hG) f2 hn (fun u v _ _ => by have := b4.2.2.1 u v; omega), ?_⟩
      rintro r m3 ⟨rfl, rfl⟩
      exact Or.inr ⟨s, hs, rfl, Or.inr ⟨y, hsl, rfl, ⟨w', f2, b2, b3, b4⟩, ⟨nx, v1, a2, v2, Nat.zero_le 14, fun j z hj => (by have hj : ([] : List Fw)[j]? = some z := hj; simp at hj)⟩, i3.mv (fun a q1 q2 => o1 a (by omega) (by omega)), i4.mv (fun a q1 q2 => o1 a (by omega) (by omega)), i5.mv (by rw [o1 76 (by omega) (by omega)]) (o1 77 (by omega) (by omega))⟩⟩
  · rw [i_lt, i_2] at z; omega
end AC
