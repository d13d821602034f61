/-! what an action answers and leaves is told by the state and the arguments alone -/
section DT
theorem nI_inj {a b : Nat} (ha : a < 2147483648) (hb : b < 2147483648) (h : nI a = nI b) : a = b := (i_neq ha hb).mp h
abbrev DtI (M : MTy) (As : List Value) (S : Sta) : Prop := ∃ (r : Int32) (S' : Sta), ∀ (l : Launch) (G : Gx) (mem : Mem), Mn G → At mem S → CtI l M G (.ref (gA G 0) :: As) mem (fun r' m => r' = r ∧ At m S')
theorem d_append (S : Sta) (c : Int32) : DtI M_X6_append [.int c] S := by
  by_cases h : 0 ≤ c.toInt ∧ c.toInt ≤ 255
  · obtain ⟨k, hk, rfl⟩ : ∃ k : Nat, k < 256 ∧ c = nI k := i_arg (by omega) (by omega)
    by_cases q : S.2.2.2.2.2.1 < 80
    · refine ⟨nI (S.2.2.2.2.2.1 + 1), texted S (S.2.2.2.2.2.1 + 1, updW S.2.2.2.2.2.2 S.2.2.2.2.2.1 k), fun l G mem hG I => (a_append hG I _).mono ?_⟩
      rintro r m (⟨k1, -⟩ | ⟨k', hk', e, ⟨-, k2, k3⟩ | ⟨k1, -⟩⟩)
      · exact absurd h k1
      · rw [← nI_inj (by omega) (by omega) e] at k3
        exact ⟨k2, k3⟩
      · exact absurd q k1
    · refine ⟨-4, S, fun l G mem hG I => (a_append hG I _).mono ?_⟩
      rintro r m (⟨k1, -⟩ | ⟨k', hk', e, ⟨k1, -⟩ | ⟨-, k2, k3⟩⟩)
      · exact absurd h k1
      · exact absurd k1 q
      · exact ⟨k2, k3⟩
  · refine ⟨-2, S, fun l G mem hG I => (a_append hG I _).mono ?_⟩
    rintro r m (⟨-, k2, k3⟩ | ⟨k', hk', rfl, -⟩)
    · exact ⟨k2, k3⟩
    · exact absurd (by rw [i_nI (by omega)]; omega) h
theorem d_clearText (S : Sta) : DtI M_X6_clearText [] S := ⟨_, _, fun l G mem hG I => a_clearText hG I⟩
theorem d_loadX (S : Sta) : DtI M_X6_load [] S := by
  cases h : (rd S.2.2.2.2.2.2 S.2.2.2.2.2.1).2 with
  | none =>
    refine ⟨-3, S, fun l G mem hG I => (a_load hG I).mono ?_⟩
    rintro r m (⟨n, E, e, -⟩ | ⟨-, k2, k3⟩)
    · rw [h] at e; cases e
    · exact ⟨k2, k3⟩
  | some x =>
    refine ⟨nI (cntE x.2 x.1 x.1), (x.1, (wOf S.2.2.2.2.2.2, x.2), [], (fun _ => none), S.2.2.2.2), fun l G mem hG I => (a_load hG I).mono ?_⟩
    rintro r m (⟨n, E, e, k2, k3⟩ | ⟨e, -⟩)
    · rw [h] at e; cases e; exact ⟨k2, k3⟩
    · rw [h] at e; cases e
theorem d_link (S : Sta) (u v t : Int32) : DtI M_X6_link [.int u, .int v, .int t] S := by
  by_cases h : ∃ i j k, (i < 12 ∧ j < 12 ∧ u = nI i ∧ v = nI j ∧ t = nI k ∧ 1 ≤ k ∧ k ≤ 99) ∧ (i < S.1 ∧ j < S.1 ∧ ¬ gc S.1 S.2.1.2 i j)
  · obtain ⟨i, j, k, ⟨h1, h2, rfl, rfl, rfl, h3, h4⟩, h5, h6, h7⟩ := h
    refine ⟨nI (cntE (updE S.2.1.2 i j k) S.1 S.1), acted S (S.2.1.1, updE S.2.1.2 i j k), fun l G mem hG I => (a_link hG I _ _ _).mono ?_⟩
    have hn := I.n12
    rintro r m (⟨k1, k2, k3⟩ | ⟨i', j', k', ⟨g1, g2, e1, e2, e3, g3, g4, -⟩, k2, k3⟩)
    · have := (k2.ok (by rw [i_nI (by omega)]; omega) (by omega) (by omega) hn).mpr ⟨h5, h6, h7⟩
      exact absurd this k1
    · have e1 := nI_inj (by omega) (by omega) e1
      have e2 := nI_inj (by omega) (by omega) e2
      have e3 := nI_inj (by omega) (by omega) e3
      subst e1; subst e2; subst e3
      exact ⟨k2, k3⟩
  · refine ⟨Classical.epsilon (fun y => LinkErr S.1 (gc S.1 S.2.1.2) u v t y ∧ ¬ y = 0), S, fun l G mem hG I => (a_link hG I _ _ _).mono ?_⟩
    have hn := I.n12
    rintro r m (⟨k1, k2, k3⟩ | ⟨i', j', k', ⟨g1, g2, e1, e2, e3, g3, g4, g5⟩, -⟩)
    · have := Classical.epsilon_spec (p := fun y => LinkErr S.1 (gc S.1 S.2.1.2) u v t y ∧ ¬ y = 0) ⟨r, k2, k1⟩
      exact ⟨k2.uq hn this.1, k3⟩
    · exact absurd ⟨i', j', k', ⟨by omega, by omega, e1, e2, e3, g3, g4⟩, g1, g2, g5⟩ h
theorem d_cut (S : Sta) (u v : Int32) : DtI M_X6_cut [.int u, .int v] S := by
  by_cases h : ∃ i j, (i < 12 ∧ j < 12 ∧ u = nI i ∧ v = nI j) ∧ (i < S.1 ∧ j < S.1 ∧ 0 < S.2.1.2 i j)
  · obtain ⟨i, j, ⟨h1, h2, rfl, rfl⟩, h5, h6, h7⟩ := h
    refine ⟨nI (S.2.1.2 i j), acted S (S.2.1.1, updE S.2.1.2 i j 0), fun l G mem hG I => (a_cut hG I _ _).mono ?_⟩
    have hn := I.n12
    rintro r m (⟨k1, k2, k3⟩ | ⟨i', j', ⟨g1, g2, e1, e2, -⟩, k2, k3⟩)
    · have := (k2.ok (by decide) (by omega) (by omega) hn).mpr ⟨h5, h6, h7⟩
      exact absurd this k1
    · have e1 := nI_inj (by omega) (by omega) e1
      have e2 := nI_inj (by omega) (by omega) e2
      subst e1; subst e2
      exact ⟨k2, k3⟩
  · refine ⟨Classical.epsilon (fun y => EdgeErr S.1 S.2.1.2 u v 1 y ∧ ¬ y = 0), S, fun l G mem hG I => (a_cut hG I _ _).mono ?_⟩
    have hn := I.n12
    rintro r m (⟨k1, k2, k3⟩ | ⟨i', j', ⟨g1, g2, e1, e2, g5⟩, -⟩)
    · have := Classical.epsilon_spec (p := fun y => EdgeErr S.1 S.2.1.2 u v 1 y ∧ ¬ y = 0) ⟨r, k2, k1⟩
      exact ⟨k2.uq hn this.1, k3⟩
    · exact absurd ⟨i', j', ⟨by omega, by omega, e1, e2⟩, g1, g2, g5⟩ h
theorem d_setEdgeWeight (S : Sta) (u v t : Int32) : DtI M_X6_setEdgeWeight [.int u, .int v, .int t] S := by
  by_cases h : ∃ i j k, (i < 12 ∧ j < 12 ∧ u = nI i ∧ v = nI j ∧ t = nI k ∧ 1 ≤ k ∧ k ≤ 99) ∧ (i < S.1 ∧ j < S.1 ∧ 0 < S.2.1.2 i j)
  · obtain ⟨i, j, k, ⟨h1, h2, rfl, rfl, rfl, h3, h4⟩, h5, h6, h7⟩ := h
    refine ⟨nI (S.2.1.2 i j), acted S (S.2.1.1, updE S.2.1.2 i j k), fun l G mem hG I => (a_setEdgeWeight hG I _ _ _).mono ?_⟩
    have hn := I.n12
    rintro r m (⟨k1, k2, k3⟩ | ⟨i', j', k', ⟨g1, g2, e1, e2, e3, g3, g4, -⟩, k2, k3⟩)
    · have := (k2.ok (by rw [i_nI (by omega)]; omega) (by omega) (by omega) hn).mpr ⟨h5, h6, h7⟩
      exact absurd this k1
    · have e1 := nI_inj (by omega) (by omega) e1
      have e2 := nI_inj (by omega) (by omega) e2
      have e3 := nI_inj (by omega) (by omega) e3
      subst e1; subst e2; subst e3
      exact ⟨k2, k3⟩
  · refine ⟨Classical.epsilon (fun y => EdgeErr S.1 S.2.1.2 u v t y ∧ ¬ y = 0), S, fun l G mem hG I => (a_setEdgeWeight hG I _ _ _).mono ?_⟩
    have hn := I.n12
    rintro r m (⟨k1, k2, k3⟩ | ⟨i', j', k', ⟨g1, g2, e1, e2, e3, g3, g4, g5⟩, -⟩)
    · have := Classical.epsilon_spec (p := fun y => EdgeErr S.1 S.2.1.2 u v t y ∧ ¬ y = 0) ⟨r, k2, k1⟩
      exact ⟨k2.uq hn this.1, k3⟩
    · exact absurd ⟨i', j', k', ⟨by omega, by omega, e1, e2, e3, g3, g4⟩, g1, g2, g5⟩ h
theorem d_setVertexWeight (S : Sta) (v t : Int32) : DtI M_X6_setVertexWeight [.int v, .int t] S := by
  by_cases h : ∃ i k, (i < 12 ∧ v = nI i ∧ t = nI k ∧ k ≤ 99) ∧ i < S.1
  · obtain ⟨i, k, ⟨h1, rfl, rfl, h3⟩, h5⟩ := h
    refine ⟨nI (S.2.1.1 i), acted S (updW S.2.1.1 i k, S.2.1.2), fun l G mem hG I => (a_setVertexWeight hG I _ _).mono ?_⟩
    have hn := I.n12
    rintro r m (⟨⟨k1, -⟩ | ⟨-, k1, -⟩, -⟩ | ⟨i', k', ⟨g1, e1, e2, g2⟩, k2, k3⟩)
    · exact absurd (Vx.of h5 hn) k1
    · exact absurd (by rw [i_nI (by omega)]; omega) k1
    · have e1 := nI_inj (by omega) (by omega) e1
      have e2 := nI_inj (by omega) (by omega) e2
      subst e1; subst e2
      exact ⟨k2, k3⟩
  · by_cases q : Vx S.1 v
    · refine ⟨-2, S, fun l G mem hG I => (a_setVertexWeight hG I _ _).mono ?_⟩
      have hn := I.n12
      rintro r m (⟨⟨k1, -⟩ | ⟨-, -, k1⟩, k3⟩ | ⟨i', k', ⟨g1, e1, e2, g2⟩, -⟩)
      · exact absurd q k1
      · exact ⟨k1, k3⟩
      · exact absurd ⟨i', k', ⟨by omega, e1, e2, g2⟩, g1⟩ h
    · exact ⟨-1, S, fun l G mem hG I => e_setVertexWeight0 hG I q⟩
theorem d_undo (S : Sta) : DtI M_X6_undo [] S := by
  cases h : S.2.2.1 with
  | nil =>
    refine ⟨-3, S, fun l G mem hG I => (a_undo hG I).mono ?_⟩
    rintro r m (⟨-, k2, k3⟩ | ⟨y, t, e, -⟩)
    · exact ⟨k2, k3⟩
    · rw [h] at e; cases e
  | cons y t =>
    refine ⟨nI t.length, (S.1, y, t, S.2.2.2), fun l G mem hG I => (a_undo hG I).mono ?_⟩
    rintro r m (⟨e, -⟩ | ⟨y', t', e, k2, k3⟩)
    · rw [h] at e; cases e
    · rw [h] at e; cases e; exact ⟨k2, k3⟩
theorem d_observe (S : Sta) (u v d : Int32) : DtI M_X6_observe [.int u, .int v, .int d] S := by
  by_cases h : Obk u v d
  · obtain ⟨a, ha, rfl⟩ : ∃ t : Nat, t < 12 ∧ u = nI t := i_arg (by have := h.1; omega) (by have := h.1; omega)
    obtain ⟨b, hb, rfl⟩ : ∃ t : Nat, t < 12 ∧ v = nI t := i_arg (by have := h.2.1; omega) (by have := h.2.1; omega)
    obtain ⟨e, he, rfl⟩ : ∃ t : Nat, t < 1000 ∧ d = nI t := i_arg (by have := h.2.2; omega) (by have := h.2.2; omega)
    refine ⟨nI (min (S.2.2.2.2.1.2.1 + 1) 6), seenS S a b e, fun l G mem hG I => (a_observe hG I _ _ _).mono ?_⟩
    rintro r m (⟨k1, -⟩ | ⟨a', b', e', ⟨e1, e2, e3, g1, g2, g3⟩, k2, k3⟩)
    · exact absurd h k1
    · have e1 := nI_inj (by omega) (by omega) e1
      have e2 := nI_inj (by omega) (by omega) e2
      have e3 := nI_inj (by omega) (by omega) e3
      subst e1; subst e2; subst e3
      exact ⟨k2, k3⟩
  · exact ⟨-2, S, fun l G mem hG I => e_observe hG I h⟩
theorem d_save (S : Sta) (t : Int32) : DtI M_X6_save [.int t] S := by
  by_cases h : 0 ≤ t.toInt ∧ t.toInt ≤ 1
  · obtain ⟨a, ha, rfl⟩ : ∃ k : Nat, k < 2 ∧ t = nI k := i_arg (by omega) (by omega)
    refine ⟨nI (cntE S.2.1.2 S.1 S.1), savedS S a, fun l G mem hG I => (a_save hG I _).mono ?_⟩
    rintro r m (⟨k1, -⟩ | ⟨a', g1, e1, k2, k3⟩)
    · exact absurd h k1
    · have e1 := nI_inj (by omega) (by omega) e1
      subst e1
      exact ⟨k2, k3⟩
  · exact ⟨-1, S, fun l G mem hG I => e_save hG I h⟩
theorem d_restore (S : Sta) (t : Int32) : DtI M_X6_restore [.int t] S := by
  by_cases h : 0 ≤ t.toInt ∧ t.toInt ≤ 1
  · obtain ⟨a, ha, rfl⟩ : ∃ k : Nat, k < 2 ∧ t = nI k := i_arg (by omega) (by omega)
    cases hs : S.2.2.2.1 a with
    | none =>
      refine ⟨-3, S, fun l G mem hG I => (a_restore hG I _).mono ?_⟩
      rintro r m (⟨k1, -⟩ | ⟨a', g1, e1, ⟨-, k2, k3⟩ | ⟨y, k1, -⟩⟩)
      · exact absurd h k1
      · exact ⟨k2, k3⟩
      · rw [← nI_inj (by omega) (by omega) e1, hs] at k1; cases k1
    | some y =>
      refine ⟨nI (cntE y.2 S.1 S.1), (S.1, y, [], S.2.2.2), fun l G mem hG I => (a_restore hG I _).mono ?_⟩
      rintro r m (⟨k1, -⟩ | ⟨a', g1, e1, ⟨k1, -⟩ | ⟨y', k1, k2, k3⟩⟩)
      · exact absurd h k1
      · rw [← nI_inj (by omega) (by omega) e1, hs] at k1; cases k1
      · rw [← nI_inj (by omega) (by omega) e1, hs] at k1; cases k1; exact ⟨k2, k3⟩
  · exact ⟨-1, S, fun l G mem hG I => e_restore hG I h⟩
theorem d_two (S : Sta) (a : Int32) : DtI M_L_two [.int a] S := by
  obtain ⟨r1, S1, h1⟩ := d_append S (48 + a / 10)
  obtain ⟨r2, S2, h2⟩ := d_append S1 (48 + (a - a / 10 * 10))
  refine ⟨r1 + r2, S2, fun l G mem hG I => CtI_of (by decide) (Nat.le_of_ble_eq_true rfl) rfl (t_L_two_0 hG _ mem ⟨_, h1 l G mem hG I, ?_⟩)⟩
  rintro r m ⟨rfl, I1⟩
  refine ⟨_, h2 l G m hG I1, ?_⟩
  rintro r' m' ⟨rfl, I2⟩
  exact ⟨rfl, I2⟩
/-- the rest of a loading, from a cut on -/
def DL (pc : Nat) (f : Lv) (S : Sta) : Prop := ∃ (r : Int32) (S' : Sta), ∀ (l : Launch) (q : E5) (G : Gx) (mem : Mem), Mn G → At mem S → XJ l M_L_load q G (fun r' m => r' = r ∧ At m S') mem pc ((0, .ref (gA G 0)) :: f) []
theorem dl_248 (S : Sta) (a4 : Int32) : DL 248 [(4, .int a4)] S := by
  obtain ⟨r1, S1, h1⟩ := d_loadX S
  refine ⟨53 * a4 + r1, S1, fun l q G mem hG I => t_L_load_248 hG _ mem ⟨_, h1 l G mem hG I, ?_⟩⟩
  rintro r m ⟨rfl, I1⟩
  exact ⟨rfl, I1⟩
theorem dl_87 {a1 a3 : Int32} {y N : Nat} (hy : y < 2147483648) (hN : N < 2147483648) (h1 : ∀ k : Nat, 1 ≤ k → k < N → ¬ a3 ≤ nI k) (h2 : a3 ≤ nI N) (h3 : 1 ≤ N) : ∀ (S : Sta) (a4 a5 : Int32), DL 87 [(1, .int a1), (2, .int (nI y)), (3, .int a3), (4, .int a4), (5, .int a5), (6, .int 1)] S := by
  refine up_loop (P := fun k => ∀ (S : Sta) (a4 a5 : Int32), DL 87 [(1, .int a1), (2, .int (nI y)), (3, .int a3), (4, .int a4), (5, .int a5), (6, .int (nI k))] S) (n := N) (i := 1) h3 ?_ ?_
  · intro S a4 a5
    by_cases c : (a1 - a1 / 41 * 41) = 0
    · have ey : nI y - nI y / 4 * 4 = nI (y % 4) := rem_nI (d := 4) hy (by decide) (by decide)
      obtain ⟨r1, S1, g1⟩ := d_append S (chQ (y % 4))
      obtain ⟨r2, S2, g2⟩ := dl_248 S1 (a4 + r1)
      refine ⟨r2, S2, fun l q G mem hG I => t_L_load_87 hG _ _ _ _ _ _ mem ⟨fun _ => ⟨fun z => absurd c z, fun _ => ⟨y % 4, Nat.mod_lt _ (by decide), ey, _, g1 l G mem hG I, ?_⟩⟩, fun z => absurd h2 z⟩⟩
      rintro r m ⟨rfl, I1⟩
      exact g2 l q G m hG I1
    · obtain ⟨r2, S2, g2⟩ := dl_248 S (a4 + 0)
      exact ⟨r2, S2, fun l q G mem hG I => t_L_load_87 hG _ _ _ _ _ _ mem ⟨fun _ => ⟨fun _ => g2 l q G mem hG I, fun z => absurd z c⟩, fun z => absurd h2 z⟩⟩
  · intro k k1 kN ih S a4 a5
    have nk := h1 k k1 kN
    have k0 : ¬ nI k = 0 := fun z => by
      have := nI_inj (b := 0) (by omega) (by decide) z
      omega
    have d200 : ∀ (S : Sta) (a4 a5 : Int32), DL 200 [(1, .int a1), (2, .int (nI y)), (3, .int a3), (4, .int a4), (5, .int a5), (6, .int (nI k))] S := by
      intro S a4 a5
      obtain ⟨r, S', g⟩ := ih S a4 ((a5 / 5) + (104729 * (nI k + 2)))
      refine ⟨r, S', fun l q G mem hG I => t_L_load_200 hG _ _ _ _ _ _ mem ?_⟩
      rw [nI_1]
      exact g l q G mem hG I
    have d181 : ∀ (S : Sta) (a4 a5 : Int32), DL 181 [(1, .int a1), (2, .int (nI y)), (3, .int a3), (4, .int a4), (5, .int a5), (6, .int (nI k))] S := by
      intro S a4 a5
      obtain ⟨r1, S1, g1⟩ := d_two S (1 + ((a5 / 11) - (a5 / 11) / 99 * 99))
      obtain ⟨r2, S2, g2⟩ := d200 S1 (a4 + r1) a5
      refine ⟨r2, S2, fun l q G mem hG I => t_L_load_181 hG _ _ _ _ _ _ mem ⟨_, g1 l G mem hG I, ?_⟩⟩
      rintro r m ⟨rfl, I1⟩
      exact g2 l q G m hG I1
    have d128 : ∀ (S : Sta) (a4 a5 a7 : Int32), DL 128 [(1, .int a1), (2, .int (nI y)), (3, .int a3), (4, .int a4), (5, .int a5), (6, .int (nI k)), (7, .int a7)] S := by
      intro S a4 a5 a7
      by_cases c : (a5 - a5 / 2 * 2) = 0
      · obtain ⟨r1, S1, g1⟩ := d_append S (97 + nI k)
        obtain ⟨r2, S2, g2⟩ := d_append S1 (97 + a7)
        obtain ⟨r3, S3, g3⟩ := d181 S2 (a4 + (r1 + r2)) a5
        refine ⟨r3, S3, fun l q G mem hG I => t_L_load_128 hG _ _ _ _ _ _ _ mem ⟨fun z => absurd c z, fun _ => ⟨_, g1 l G mem hG I, ?_⟩⟩⟩
        rintro r m ⟨rfl, I1⟩
        refine ⟨_, g2 l G m hG I1, ?_⟩
        rintro r' m' ⟨rfl, I2⟩
        exact g3 l q G m' hG I2
      · obtain ⟨r1, S1, g1⟩ := d_append S (97 + a7)
        obtain ⟨r2, S2, g2⟩ := d_append S1 (97 + nI k)
        obtain ⟨r3, S3, g3⟩ := d181 S2 (a4 + (r1 + r2)) a5
        refine ⟨r3, S3, fun l q G mem hG I => t_L_load_128 hG _ _ _ _ _ _ _ mem ⟨fun _ => ⟨_, g1 l G mem hG I, ?_⟩, fun z => absurd z c⟩⟩
        rintro r m ⟨rfl, I1⟩
        refine ⟨_, g2 l G m hG I1, ?_⟩
        rintro r' m' ⟨rfl, I2⟩
        exact g3 l q G m' hG I2
    by_cases c1 : (a5 - a5 / 6 * 6) ≤ 0
    · obtain ⟨r, S', g⟩ := d200 S a4 a5
      exact ⟨r, S', fun l q G mem hG I => t_L_load_87 hG _ _ _ _ _ _ mem ⟨fun z => absurd z nk, fun _ => ⟨fun _ => g l q G mem hG I, fun z => absurd c1 z⟩⟩⟩
    · by_cases c2 : ((a5 / 6) - (a5 / 6) / 4 * 4) = 0
      · obtain ⟨r, S', g⟩ := d128 S a4 a5 (nI k - 1)
        exact ⟨r, S', fun l q G mem hG I => t_L_load_87 hG _ _ _ _ _ _ mem ⟨fun z => absurd z nk, fun _ => ⟨fun z => absurd z c1, fun _ => ⟨fun z => absurd c2 z, fun _ => g l q G mem hG I⟩⟩⟩⟩
      · obtain ⟨r, S', g⟩ := d128 S a4 a5 ((a5 / 24) - (a5 / 24) / nI k * nI k)
        exact ⟨r, S', fun l q G mem hG I => t_L_load_87 hG _ _ _ _ _ _ mem ⟨fun z => absurd z nk, fun _ => ⟨fun z => absurd z c1, fun _ => ⟨fun _ => ⟨k0, g l q G mem hG I⟩, fun z => absurd z c2⟩⟩⟩⟩
/-- how often a loop runs that counts from i while it is less than a3 -/
theorem times (a3 : Int32) (i : Nat) (hi : i < 2147483648) : ∃ N : Nat, i ≤ N ∧ N < 2147483648 ∧ a3 ≤ nI N ∧ ∀ k : Nat, i ≤ k → k < N → ¬ a3 ≤ nI k := by
  have b := i_rng a3
  refine ⟨max i a3.toInt.toNat, Nat.le_max_left _ _, by omega, ?_, fun k h1 h2 z => ?_⟩
  · rw [i_le, i_nI (by omega)]; omega
  · rw [i_le, i_nI (by omega)] at z; omega
theorem d_load (S : Sta) (a1 : Int32) {y : Nat} (hy : y < 2147483648) : ∃ (r : Int32) (S' : Sta), ∀ (l : Launch) (q : E5) (G : Gx) (mem : Mem), Mn G → At mem S → CeI l M_L_load q G [.ref (gA G 0), .int a1, .int (nI y)] mem (fun r' m => r' = r ∧ At m S') := by
  obtain ⟨r1, S1, g1⟩ := d_clearText S
  obtain ⟨r2, S2, g2⟩ := d_append S1 70
  obtain ⟨r3, S3, g3⟩ := d_two S2 (1 + (a1 - a1 / 12 * 12))
  obtain ⟨N, -, hN, hN2, hN3⟩ := times (1 + (a1 - a1 / 12 * 12)) 0 (by decide)
  obtain ⟨N', hN1', hN', hN2', hN3'⟩ := times (1 + (a1 - a1 / 12 * 12)) 1 (by decide)
  have d32 : ∀ (S : Sta) (a4 a5 : Int32), DL 32 [(1, .int a1), (2, .int (nI y)), (3, .int (1 + (a1 - a1 / 12 * 12))), (4, .int a4), (5, .int a5), (6, .int 0)] S := by
    refine up_loop (P := fun k => ∀ (S : Sta) (a4 a5 : Int32), DL 32 [(1, .int a1), (2, .int (nI y)), (3, .int (1 + (a1 - a1 / 12 * 12))), (4, .int a4), (5, .int a5), (6, .int (nI k))] S) (n := N) (Nat.zero_le _) ?_ ?_
    · intro S a4 a5
      obtain ⟨r, S', g⟩ := dl_87 (a1 := a1) hy hN' hN3' hN2' hN1' S a4 a5
      exact ⟨r, S', fun l q G mem hG I => t_L_load_32 hG _ _ _ _ _ _ mem ⟨fun _ => g l q G mem hG I, fun z => absurd hN2 z⟩⟩
    · intro k k1 kN ih S a4 a5
      have nk := hN3 k k1 kN
      have d63 : ∀ (S : Sta) (a4 a5 : Int32), DL 63 [(1, .int a1), (2, .int (nI y)), (3, .int (1 + (a1 - a1 / 12 * 12))), (4, .int a4), (5, .int a5), (6, .int (nI k))] S := by
        intro S a4 a5
        obtain ⟨r, S', g⟩ := ih S a4 ((a5 / 3) + (7919 * (nI k + 1)))
        refine ⟨r, S', fun l q G mem hG I => t_L_load_63 hG _ _ _ _ _ _ mem ?_⟩
        have := g l q G mem hG I
        rw [← nI_1] at this
        exact this
      by_cases c : (a5 - a5 / 3 * 3) = 0
      · obtain ⟨r1, S1, g1⟩ := d_two S 0
        obtain ⟨r2, S2, g2⟩ := d63 S1 (a4 + r1) a5
        refine ⟨r2, S2, fun l q G mem hG I => t_L_load_32 hG _ _ _ _ _ _ mem ⟨fun z => absurd z nk, fun _ => ⟨fun z => absurd c z, fun _ => ⟨_, g1 l G mem hG I, ?_⟩⟩⟩⟩
        rintro r m ⟨rfl, I1⟩
        exact g2 l q G m hG I1
      · obtain ⟨r1, S1, g1⟩ := d_two S (a5 - a5 / 100 * 100)
        obtain ⟨r2, S2, g2⟩ := d63 S1 (a4 + r1) a5
        refine ⟨r2, S2, fun l q G mem hG I => t_L_load_32 hG _ _ _ _ _ _ mem ⟨fun z => absurd z nk, fun _ => ⟨fun _ => ⟨_, g1 l G mem hG I, ?_⟩, fun z => absurd z c⟩⟩⟩
        rintro r m ⟨rfl, I1⟩
        exact g2 l q G m hG I1
  obtain ⟨r, S', g⟩ := d32 S3 ((r1 + r2) + r3) (nI y)
  refine ⟨r, S', fun l q G mem hG I => CtE.of (by decide) (Nat.le_of_ble_eq_true rfl) rfl (t_L_load_0 hG _ _ mem ⟨_, g1 l G mem hG I, ?_⟩)⟩
  rintro x1 m1 ⟨rfl, I1⟩
  refine ⟨_, g2 l G m1 hG I1, ?_⟩
  rintro x2 m2 ⟨rfl, I2⟩
  refine ⟨_, g3 l G m2 hG I2, ?_⟩
  rintro x3 m3 ⟨rfl, I3⟩
  exact g l q G m3 hG I3
/-- a contract of an action, in the frame of act -/
theorem act_of {M : MTy} {As : List Value} {S : Sta} {r : Int32} {S' : Sta} {l : Launch} {G : Gx} {mem : Mem} (h : CtI l M G (.ref (gA G 0) :: As) mem (fun r' m => r' = r ∧ At m S')) : ∃ Q : Int32 → Mem → Prop, CtI l M G (.ref (gA G 0) :: As) mem Q ∧ ∀ (r' : Int32) (m : Mem), Q r' m → (r' = r ∧ At m S') := ⟨_, h, fun _ _ q => q⟩
theorem d_act (S : Sta) (a1 : Int32) {y : Nat} (hy : y < 2147483648) : ∃ (r : Int32) (S' : Sta), ∀ (l : Launch) (q : E5) (G : Gx) (mem : Mem), Mn G → At mem S → CeI l M_L_act q G [.ref (gA G 0), .int a1, .int (nI y)] mem (fun r' m => r' = r ∧ At m S') := by
  obtain ⟨x, hx⟩ : ∃ x, (a1 &&& 15).toInt = x := ⟨_, rfl⟩
  by_cases c0 : x = 0 ∨ x = 1 ∨ x = 2 ∨ x = 3
  · obtain ⟨r, S', g⟩ := d_load S (a1 >>> (4 &&& 31)) hy
    refine ⟨r, S', fun l q G mem hG I => CtE.of (by decide) (Nat.le_of_ble_eq_true rfl) rfl (t_L_act_0 hG _ _ mem ?_)⟩
    rw [hx]
    have g := g l q G mem hG I
    refine ⟨fun _ => ⟨_, g, fun _ _ q => q⟩, fun _ => ⟨_, g, fun _ _ q => q⟩, fun _ => ⟨_, g, fun _ _ q => q⟩, fun _ => ⟨_, g, fun _ _ q => q⟩, fun z => ?_, fun z => ?_, fun z => ?_, fun z => ?_, fun z => ?_, fun z => ?_, fun z => ?_, fun z => ?_, fun z => ?_, fun z => ?_, fun z => ?_, fun z0 z1 z2 z3 => ?_⟩
    all_goals first | (exfalso; rw [z] at c0; revert c0; decide) | (rcases c0 with c | c | c | c; exact absurd c z0; exact absurd c z1; exact absurd c z2; exact absurd c z3)
  by_cases c1 : x = 4 ∨ x = 5 ∨ x = 6 ∨ x = 7
  · obtain ⟨r, S', g⟩ := d_link S (nI y - nI y / 12 * 12) ((nI y / 12) - (nI y / 12) / 12 * 12) (1 + ((nI y / 144) - (nI y / 144) / 99 * 99))
    refine ⟨r, S', fun l q G mem hG I => CtE.of (by decide) (Nat.le_of_ble_eq_true rfl) rfl (t_L_act_0 hG _ _ mem ?_)⟩
    rw [hx]
    have g := g l G mem hG I
    refine ⟨fun z => ?_, fun z => ?_, fun z => ?_, fun z => ?_, fun _ => ⟨_, g, fun _ _ q => q⟩, fun _ => ⟨_, g, fun _ _ q => q⟩, fun _ => ⟨_, g, fun _ _ q => q⟩, fun _ => ⟨_, g, fun _ _ q => q⟩, fun z => ?_, fun z => ?_, fun z => ?_, fun z => ?_, fun z => ?_, fun z => ?_, fun z => ?_, fun _ _ _ _ z0 z1 z2 z3 => ?_⟩
    all_goals first | (exfalso; rw [z] at c1; revert c1; decide) | (rcases c1 with c | c | c | c; exact absurd c z0; exact absurd c z1; exact absurd c z2; exact absurd c z3)
  by_cases c2 : x = 8 ∨ x = 9
  · obtain ⟨r, S', g⟩ := d_cut S (nI y - nI y / 12 * 12) ((nI y / 12) - (nI y / 12) / 12 * 12)
    refine ⟨r, S', fun l q G mem hG I => CtE.of (by decide) (Nat.le_of_ble_eq_true rfl) rfl (t_L_act_0 hG _ _ mem ?_)⟩
    rw [hx]
    have g := g l G mem hG I
    refine ⟨fun z => ?_, fun z => ?_, fun z => ?_, fun z => ?_, fun z => ?_, fun z => ?_, fun z => ?_, fun z => ?_, fun _ => ⟨_, g, fun _ _ q => q⟩, fun _ => ⟨_, g, fun _ _ q => q⟩, fun z => ?_, fun z => ?_, fun z => ?_, fun z => ?_, fun z => ?_, fun _ _ _ _ _ _ _ _ z0 z1 => ?_⟩
    all_goals first | (exfalso; rw [z] at c2; revert c2; decide) | (rcases c2 with c | c; exact absurd c z0; exact absurd c z1)
  by_cases c3 : x = 10
  · obtain ⟨r, S', g⟩ := d_setEdgeWeight S (nI y - nI y / 12 * 12) ((nI y / 12) - (nI y / 12) / 12 * 12) (1 + ((nI y / 144) - (nI y / 144) / 99 * 99))
    refine ⟨r, S', fun l q G mem hG I => CtE.of (by decide) (Nat.le_of_ble_eq_true rfl) rfl (t_L_act_0 hG _ _ mem ?_)⟩
    rw [hx]
    have g := g l G mem hG I
    refine ⟨fun z => ?_, fun z => ?_, fun z => ?_, fun z => ?_, fun z => ?_, fun z => ?_, fun z => ?_, fun z => ?_, fun z => ?_, fun z => ?_, fun _ => ⟨_, g, fun _ _ q => q⟩, fun z => ?_, fun z => ?_, fun z => ?_, fun z => ?_, fun _ _ _ _ _ _ _ _ _ _ z _ _ _ _ => absurd c3 z⟩
    all_goals (exfalso; rw [c3] at z; revert z; decide)
  by_cases c4 : x = 11
  · obtain ⟨r, S', g⟩ := d_setVertexWeight S (nI y - nI y / 12 * 12) ((nI y / 12) - (nI y / 12) / 100 * 100)
    refine ⟨r, S', fun l q G mem hG I => CtE.of (by decide) (Nat.le_of_ble_eq_true rfl) rfl (t_L_act_0 hG _ _ mem ?_)⟩
    rw [hx]
    have g := g l G mem hG I
    refine ⟨fun z => ?_, fun z => ?_, fun z => ?_, fun z => ?_, fun z => ?_, fun z => ?_, fun z => ?_, fun z => ?_, fun z => ?_, fun z => ?_, fun z => ?_, fun _ => ⟨_, g, fun _ _ q => q⟩, fun z => ?_, fun z => ?_, fun z => ?_, fun _ _ _ _ _ _ _ _ _ _ _ z _ _ _ => absurd c4 z⟩
    all_goals (exfalso; rw [c4] at z; revert z; decide)
  by_cases c5 : x = 12
  · obtain ⟨r, S', g⟩ := d_undo S
    refine ⟨r, S', fun l q G mem hG I => CtE.of (by decide) (Nat.le_of_ble_eq_true rfl) rfl (t_L_act_0 hG _ _ mem ?_)⟩
    rw [hx]
    have g := g l G mem hG I
    refine ⟨fun z => ?_, fun z => ?_, fun z => ?_, fun z => ?_, fun z => ?_, fun z => ?_, fun z => ?_, fun z => ?_, fun z => ?_, fun z => ?_, fun z => ?_, fun z => ?_, fun _ => ⟨_, g, fun _ _ q => q⟩, fun z => ?_, fun z => ?_, fun _ _ _ _ _ _ _ _ _ _ _ _ z _ _ => absurd c5 z⟩
    all_goals (exfalso; rw [c5] at z; revert z; decide)
  by_cases c6 : x = 13
  · obtain ⟨r, S', g⟩ := d_observe S (nI y - nI y / 12 * 12) ((nI y / 12) - (nI y / 12) / 12 * 12) ((nI y / 144) - (nI y / 144) / 300 * 300)
    refine ⟨r, S', fun l q G mem hG I => CtE.of (by decide) (Nat.le_of_ble_eq_true rfl) rfl (t_L_act_0 hG _ _ mem ?_)⟩
    rw [hx]
    have g := g l G mem hG I
    refine ⟨fun z => ?_, fun z => ?_, fun z => ?_, fun z => ?_, fun z => ?_, fun z => ?_, fun z => ?_, fun z => ?_, fun z => ?_, fun z => ?_, fun z => ?_, fun z => ?_, fun z => ?_, fun _ => ⟨_, g, fun _ _ q => q⟩, fun z => ?_, fun _ _ _ _ _ _ _ _ _ _ _ _ _ z _ => absurd c6 z⟩
    all_goals (exfalso; rw [c6] at z; revert z; decide)
  by_cases c7 : x = 14
  · obtain ⟨r, S', g⟩ := d_save S (nI y &&& 1)
    refine ⟨r, S', fun l q G mem hG I => CtE.of (by decide) (Nat.le_of_ble_eq_true rfl) rfl (t_L_act_0 hG _ _ mem ?_)⟩
    rw [hx]
    have g := g l G mem hG I
    refine ⟨fun z => ?_, fun z => ?_, fun z => ?_, fun z => ?_, fun z => ?_, fun z => ?_, fun z => ?_, fun z => ?_, fun z => ?_, fun z => ?_, fun z => ?_, fun z => ?_, fun z => ?_, fun z => ?_, fun _ => ⟨_, g, fun _ _ q => q⟩, fun _ _ _ _ _ _ _ _ _ _ _ _ _ _ z => absurd c7 z⟩
    all_goals (exfalso; rw [c7] at z; revert z; decide)
  obtain ⟨r, S', g⟩ := d_restore S (nI y &&& 1)
  refine ⟨r, S', fun l q G mem hG I => CtE.of (by decide) (Nat.le_of_ble_eq_true rfl) rfl (t_L_act_0 hG _ _ mem ?_)⟩
  rw [hx]
  have g := g l G mem hG I
  exact ⟨fun z => absurd (Or.inl z) c0, fun z => absurd (Or.inr (Or.inl z)) c0, fun z => absurd (Or.inr (Or.inr (Or.inl z))) c0, fun z => absurd (Or.inr (Or.inr (Or.inr z))) c0, fun z => absurd (Or.inl z) c1, fun z => absurd (Or.inr (Or.inl z)) c1, fun z => absurd (Or.inr (Or.inr (Or.inl z))) c1, fun z => absurd (Or.inr (Or.inr (Or.inr z))) c1, fun z => absurd (Or.inl z) c2, fun z => absurd (Or.inr z) c2, fun z => absurd z c3, fun z => absurd z c4, fun z => absurd z c5, fun z => absurd z c6, fun z => absurd z c7, fun _ _ _ _ _ _ _ _ _ _ _ _ _ _ _ => ⟨_, g, fun _ _ q => q⟩⟩
end DT
