/-! the law: how many vertices; the calls that fail -/
section LE
variable {l : Launch} {G : Gx} {mem m m' : Mem} {S : Sta} {n : Nat}
theorem At.n1 (I : At mem S) : 1 ≤ S.1 := I.1.choose_spec.2.2.2.1.1
theorem At.n12 (I : At mem S) : S.1 ≤ 12 := I.1.choose_spec.2.2.2.1.2
theorem At.good (I : At mem S) : Gd S.1 S.2.1.2 := I.1.choose_spec.2.2.2
theorem At.w9 (I : At mem S) : ∀ v, v < S.1 → S.2.1.1 v ≤ 99 := I.1.choose_spec.2.2.1
theorem At.fst (I : At mem S) : Fst S.1 S.2.1.1 S.2.1.2 (gc S.1 S.2.1.2) (gd S.1 S.2.1.2) (gh S.1 S.2.1.2) := I.good.f I.w9
theorem vx_n (hn : n ≤ 12) : ¬ Vx n (nI n) := fun z => by have := z.2; rw [i_nI (by omega)] at this; omega
theorem vx_m : ¬ Vx n (-1) := fun z => by have := z.1; rw [i_m1] at this; omega
theorem l_vertices (hG : Mn G) (I : At mem S) : CtI l M_L_vertices G [.ref (gA G 0)] mem (fun r m => r = nI S.1 ∧ Keep mem m) := by
  have hn := I.n12
  refine CtI_of (by decide) (Nat.le_of_ble_eq_true rfl) rfl (t_L_vertices_0 hG mem ?_)
  refine up_loop (P := fun k => ∀ m : Mem, Keep mem m → XI l M_L_vertices G _ m 2 [(0, .ref (gA G 0)), (1, .int (nI k))] []) (n := S.1) (Nat.zero_le _) ?_ ?_ mem Keep.rf
  · intro m k1
    refine t_L_vertices_2 hG _ m ⟨_, q_vertexWeight hG (I.keep k1) _, ?_⟩
    rintro r m2 ⟨k2, k3⟩
    have e := k3.no (vx_n hn) hn
    exact ⟨fun _ => ⟨rfl, k1.tr k2⟩, fun z => absurd (by rw [e]; decide) z⟩
  · intro k _ hk ih m k1
    refine t_L_vertices_2 hG _ m ⟨_, q_vertexWeight hG (I.keep k1) _, ?_⟩
    rintro r m2 ⟨k2, k3⟩
    have e : r = nI (S.2.1.1 k) := k3.of hk hn
    have b := I.w9 k hk
    refine ⟨fun z => ?_, fun _ => ?_⟩
    · rw [e, i_lt, i_nI (by omega), i_0] at z; omega
    · rw [nI_1]; exact ih m2 (k1.tr k2)
theorem e_link {u v t y : Int32} (hG : Mn G) (I : At mem S) (h : LinkErr S.1 (gc S.1 S.2.1.2) u v t y) (hy : ¬ y = 0) : CtI l M_X6_link G [.ref (gA G 0), .int u, .int v, .int t] mem (fun r m => r = y ∧ At m S) := by
  have hn := I.n12
  refine (a_link hG I u v t).mono ?_
  rintro r m (⟨k1, k2, k3⟩ | ⟨i, j, k, ⟨hi, hj, rfl, rfl, rfl, h1, h2, h3⟩, -⟩)
  · exact ⟨k2.uq hn h, k3⟩
  · exact absurd ((h.ok (by rw [i_nI (by omega)]; omega) (by omega) (by omega) hn).mpr ⟨hi, hj, h3⟩) hy
theorem e_cut {u v y : Int32} (hG : Mn G) (I : At mem S) (h : EdgeErr S.1 S.2.1.2 u v 1 y) (hy : ¬ y = 0) : CtI l M_X6_cut G [.ref (gA G 0), .int u, .int v] mem (fun r m => r = y ∧ At m S) := by
  have hn := I.n12
  refine (a_cut hG I u v).mono ?_
  rintro r m (⟨k1, k2, k3⟩ | ⟨i, j, ⟨hi, hj, rfl, rfl, h3⟩, -⟩)
  · exact ⟨k2.uq hn h, k3⟩
  · exact absurd ((h.ok (by decide) (by omega) (by omega) hn).mpr ⟨hi, hj, h3⟩) hy
theorem e_setEdgeWeight {u v t y : Int32} (hG : Mn G) (I : At mem S) (h : EdgeErr S.1 S.2.1.2 u v t y) (hy : ¬ y = 0) : CtI l M_X6_setEdgeWeight G [.ref (gA G 0), .int u, .int v, .int t] mem (fun r m => r = y ∧ At m S) := by
  have hn := I.n12
  refine (a_setEdgeWeight hG I u v t).mono ?_
  rintro r m (⟨k1, k2, k3⟩ | ⟨i, j, k, ⟨hi, hj, rfl, rfl, rfl, h1, h2, h3⟩, -⟩)
  · exact ⟨k2.uq hn h, k3⟩
  · exact absurd ((h.ok (by rw [i_nI (by omega)]; omega) (by omega) (by omega) hn).mpr ⟨hi, hj, h3⟩) hy
theorem e_setVertexWeight0 {v t : Int32} (hG : Mn G) (I : At mem S) (h : ¬ Vx S.1 v) : CtI l M_X6_setVertexWeight G [.ref (gA G 0), .int v, .int t] mem (fun r m => r = -1 ∧ At m S) := by
  refine (a_setVertexWeight hG I v t).mono ?_
  rintro r m (⟨⟨k1, k2⟩ | ⟨k1, -⟩, k3⟩ | ⟨i, k, ⟨hi, rfl, -⟩, -⟩)
  · exact ⟨k2, k3⟩
  · exact absurd k1 h
  · exact absurd (Vx.of hi I.n12) h
theorem e_setVertexWeight1 {v t : Int32} (hG : Mn G) (I : At mem S) (h : Vx S.1 v) (h2 : ¬ (0 ≤ t.toInt ∧ t.toInt ≤ 99)) : CtI l M_X6_setVertexWeight G [.ref (gA G 0), .int v, .int t] mem (fun r m => r = -2 ∧ At m S) := by
  refine (a_setVertexWeight hG I v t).mono ?_
  rintro r m (⟨⟨k1, -⟩ | ⟨-, -, k2⟩, k3⟩ | ⟨i, k, ⟨hi, -, rfl, hk⟩, -⟩)
  · exact absurd h k1
  · exact ⟨k2, k3⟩
  · exact absurd (by rw [i_nI (by omega)]; omega) h2
theorem e_append {c : Int32} (hG : Mn G) (I : At mem S) (h : ¬ (0 ≤ c.toInt ∧ c.toInt ≤ 255)) : CtI l M_X6_append G [.ref (gA G 0), .int c] mem (fun r m => r = -2 ∧ At m S) := by
  refine (a_append hG I c).mono ?_
  rintro r m (⟨k1, k2, k3⟩ | ⟨k, hk, rfl, -⟩)
  · exact ⟨k2, k3⟩
  · exact absurd (by rw [i_nI (by omega)]; omega) h
theorem e_observe {u v d : Int32} (hG : Mn G) (I : At mem S) (h : ¬ Obk u v d) : CtI l M_X6_observe G [.ref (gA G 0), .int u, .int v, .int d] mem (fun r m => r = -2 ∧ At m S) := by
  refine (a_observe hG I u v d).mono ?_
  rintro r m (⟨k1, k2, k3⟩ | ⟨a, b, e, ⟨rfl, rfl, rfl, h1, h2, h3⟩, -⟩)
  · exact ⟨k2, k3⟩
  · exact absurd ⟨by rw [i_nI (by omega)]; omega, by rw [i_nI (by omega)]; omega, by rw [i_nI (by omega)]; omega⟩ h
theorem e_save {t : Int32} (hG : Mn G) (I : At mem S) (h : ¬ (0 ≤ t.toInt ∧ t.toInt ≤ 1)) : CtI l M_X6_save G [.ref (gA G 0), .int t] mem (fun r m => r = -1 ∧ At m S) := by
  refine (a_save hG I t).mono ?_
  rintro r m (⟨k1, k2, k3⟩ | ⟨s, hs, rfl, -⟩)
  · exact ⟨k2, k3⟩
  · exact absurd (by rw [i_nI (by omega)]; omega) h
theorem e_restore {t : Int32} (hG : Mn G) (I : At mem S) (h : ¬ (0 ≤ t.toInt ∧ t.toInt ≤ 1)) : CtI l M_X6_restore G [.ref (gA G 0), .int t] mem (fun r m => r = -1 ∧ At m S) := by
  refine (a_restore hG I t).mono ?_
  rintro r m (⟨k1, k2, k3⟩ | ⟨s, hs, rfl, -⟩)
  · exact ⟨k2, k3⟩
  · exact absurd (by rw [i_nI (by omega)]; omega) h
theorem lg_eq (x y : Int64) : lg_cmp x y = 0 ↔ x = y := by
  rw [← Int64.toInt_inj, i_eq, i_0]
  have h1 := lg_lt x y
  have h2 := lg_gt x y
  rw [i_lt, i_0] at h1 h2
  omega
theorem l_errors (hG : Mn G) (I : At mem S) : CtI l M_L_errors G [.ref (gA G 0)] mem (fun r m => r = 1 ∧ At m S) := by
  have hn := I.n12
  have n0 : 0 < S.1 := I.n1
  have F := I.fst
  have z00 : S.2.1.2 0 0 = 0 := F.tD.wi 0
  have c00 : gc S.1 S.2.1.2 0 0 := F.tD.rf n0
  have h00 : gh S.1 S.2.1.2 0 0 = 0 := F.tH.d0 n0
  have v0 : Vx S.1 0 := Vx.of (k := 0) n0 hn
  refine CtI_of (by decide) (Nat.le_of_ble_eq_true rfl) rfl (t_L_errors_0 hG mem ?_)
  refine ⟨_, l_vertices hG I, ?_⟩
  rintro r m ⟨rfl, k1⟩
  have I := I.keep k1
  refine ⟨_, e_append hG I (by decide), ?_⟩
  rintro r m ⟨e, I⟩
  refine ⟨fun z => absurd e z, fun _ => ?_⟩
  refine ⟨_, e_append hG I (by decide), ?_⟩
  rintro r m ⟨e, I⟩
  refine ⟨fun z => absurd e z, fun _ => ?_⟩
  refine ⟨_, q_vertexWeight hG I (-1), ?_⟩
  rintro r m ⟨k1, k2⟩
  have e : r = (-1) := k2.no vx_m hn
  have I := I.keep k1
  refine ⟨fun z => absurd e z, fun _ => ?_⟩
  refine ⟨_, q_edgeWeight hG I _ _, ?_⟩
  rintro r m ⟨k1, k2⟩
  have e : r = (-1) := k2.no (fun z => vx_n hn z.1) hn
  have I := I.keep k1
  refine ⟨fun z => absurd e z, fun _ => ?_⟩
  refine ⟨_, q_edgeWeight hG I _ _, ?_⟩
  rintro r m ⟨k1, k2⟩
  have e : r = (-1) := k2.no (fun z => vx_m z.2) hn
  have I := I.keep k1
  refine ⟨fun z => absurd e z, fun _ => ?_⟩
  refine t_L_errors_56 hG _ _ ?_
  refine ⟨_, q_edgeWeight hG I _ _, ?_⟩
  rintro r m ⟨k1, k2⟩
  have e : r = (-9) := by
      have := TwoAns.of (i := 0) (j := 0) k2 n0 n0 hn
      rcases this with ⟨h1, -⟩ | ⟨-, h2⟩
      · rw [z00] at h1; exact absurd h1 (by decide)
      · exact h2
  have I := I.keep k1
  refine ⟨fun z => absurd e z, fun _ => ?_⟩
  refine ⟨_, q_treeOf hG I _, ?_⟩
  rintro r m ⟨k1, k2⟩
  have e : r = (-1) := k2.no (vx_n hn) hn
  have I := I.keep k1
  refine ⟨fun z => absurd e z, fun _ => ?_⟩
  refine ⟨_, e_link (y := -1) hG I (Or.inl ⟨fun z => vx_n hn z.1, rfl⟩) (by decide), ?_⟩
  rintro r m ⟨e, I⟩
  refine ⟨fun z => absurd e z, fun _ => ?_⟩
  refine ⟨_, e_link (y := -2) hG I (Or.inr ⟨0, 0, ⟨n0, n0, rfl, rfl⟩, Or.inl ⟨by decide, rfl⟩⟩) (by decide), ?_⟩
  rintro r m ⟨e, I⟩
  refine ⟨fun z => absurd e z, fun _ => ?_⟩
  refine ⟨_, e_link (y := -2) hG I (Or.inr ⟨0, 0, ⟨n0, n0, rfl, rfl⟩, Or.inl ⟨by decide, rfl⟩⟩) (by decide), ?_⟩
  rintro r m ⟨e, I⟩
  refine ⟨fun z => absurd e z, fun _ => ?_⟩
  refine ⟨_, e_link (y := -3) hG I (Or.inr ⟨0, 0, ⟨n0, n0, rfl, rfl⟩, Or.inr ⟨by decide, Or.inl ⟨c00, rfl⟩⟩⟩) (by decide), ?_⟩
  rintro r m ⟨e, I⟩
  refine ⟨fun z => absurd e z, fun _ => ?_⟩
  refine t_L_errors_124 hG _ _ ?_
  refine ⟨_, e_cut (y := -1) hG I (Or.inl ⟨fun z => vx_n hn z.2, rfl⟩) (by decide), ?_⟩
  rintro r m ⟨e, I⟩
  refine ⟨fun z => absurd e z, fun _ => ?_⟩
  refine ⟨_, e_cut (y := -3) hG I (Or.inr ⟨0, 0, ⟨n0, n0, rfl, rfl⟩, Or.inr ⟨by decide, Or.inl ⟨z00, rfl⟩⟩⟩) (by decide), ?_⟩
  rintro r m ⟨e, I⟩
  refine ⟨fun z => absurd e z, fun _ => ?_⟩
  refine ⟨_, e_setEdgeWeight (y := -1) hG I (Or.inl ⟨fun z => vx_n hn z.1, rfl⟩) (by decide), ?_⟩
  rintro r m ⟨e, I⟩
  refine ⟨fun z => absurd e z, fun _ => ?_⟩
  refine ⟨_, e_setEdgeWeight (y := -2) hG I (Or.inr ⟨0, 0, ⟨n0, n0, rfl, rfl⟩, Or.inl ⟨by decide, rfl⟩⟩) (by decide), ?_⟩
  rintro r m ⟨e, I⟩
  refine ⟨fun z => absurd e z, fun _ => ?_⟩
  refine ⟨_, e_setEdgeWeight (y := -3) hG I (Or.inr ⟨0, 0, ⟨n0, n0, rfl, rfl⟩, Or.inr ⟨by decide, Or.inl ⟨z00, rfl⟩⟩⟩) (by decide), ?_⟩
  rintro r m ⟨e, I⟩
  refine ⟨fun z => absurd e z, fun _ => ?_⟩
  refine ⟨_, e_setVertexWeight0 hG I (vx_n hn), ?_⟩
  rintro r m ⟨e, I⟩
  refine ⟨fun z => absurd e z, fun _ => ?_⟩
  refine t_L_errors_191 hG _ _ ?_
  refine ⟨_, e_setVertexWeight1 hG I v0 (by decide), ?_⟩
  rintro r m ⟨e, I⟩
  refine ⟨fun z => absurd e z, fun _ => ?_⟩
  refine ⟨_, e_setVertexWeight1 hG I v0 (by decide), ?_⟩
  rintro r m ⟨e, I⟩
  refine ⟨fun z => absurd e z, fun _ => ?_⟩
  refine ⟨_, q_distance hG I _ _, ?_⟩
  rintro r m ⟨k1, k2⟩
  have e : r = (-1) := k2.no (fun z => vx_n hn z.2) hn
  have I := I.keep k1
  refine ⟨fun z => absurd e z, fun _ => ?_⟩
  refine ⟨_, q_pathVertex hG I _ _ _, ?_⟩
  rintro r m ⟨k1, k2⟩
  have e : r = (-1) := k2.no (fun z => vx_n hn z.1) hn
  have I := I.keep k1
  refine ⟨fun z => absurd e z, fun _ => ?_⟩
  refine ⟨_, q_pathVertex hG I _ _ _, ?_⟩
  rintro r m ⟨k1, k2⟩
  have e : r = (-2) := by
      have := TwoAns.of (i := 0) (j := 0) k2 n0 n0 hn
      rcases this with ⟨-, h2⟩ | ⟨h1, -⟩
      · exact h2
      · exact absurd h1 (by decide)
  have I := I.keep k1
  refine ⟨fun z => absurd e z, fun _ => ?_⟩
  refine ⟨_, q_pathVertex hG I _ _ _, ?_⟩
  rintro r m ⟨k1, k2⟩
  have e : r = (-9) := by
      have := TwoAns.of (i := 0) (j := 0) k2 n0 n0 hn
      rcases this with ⟨h1, -⟩ | ⟨-, h2⟩
      · exact absurd h1 (by decide)
      · rcases h2 with ⟨-, h3⟩ | ⟨-, ⟨-, h3⟩ | ⟨d, y, h3, h4, -⟩⟩
        · exact h3
        · exact h3
        · rw [h00] at h4
          rw [i_1] at h3
          omega
  have I := I.keep k1
  refine ⟨fun z => absurd e z, fun _ => ?_⟩
  refine t_L_errors_259 hG _ _ ?_
  refine ⟨_, q_eccentricity hG I _, ?_⟩
  rintro r m ⟨k1, k2⟩
  have e : r = (-1) := k2.no (vx_n hn) hn
  have I := I.keep k1
  refine ⟨fun z => absurd e z, fun _ => ?_⟩
  refine ⟨_, q_diameter hG I (-1), ?_⟩
  rintro r m ⟨k1, k2⟩
  have e : r = (-1) := k2.no vx_m hn
  have I := I.keep k1
  refine ⟨fun z => absurd e z, fun _ => ?_⟩
  refine ⟨_, q_diameterEnd hG I _ _, ?_⟩
  rintro r m ⟨k1, k2⟩
  have e : r = (-1) := k2.no (vx_n hn) hn
  have I := I.keep k1
  refine ⟨fun z => absurd e z, fun _ => ?_⟩
  refine ⟨_, q_diameterEnd hG I _ _, ?_⟩
  rintro r m ⟨k1, k2⟩
  have e : r = (-2) := by
      have := OneAns.of (k := 0) k2 n0 hn
      rcases this with ⟨-, h2⟩ | ⟨h1, -⟩
      · exact h2
      · exact absurd h1 (by decide)
  have I := I.keep k1
  refine ⟨fun z => absurd e z, fun _ => ?_⟩
  refine ⟨_, q_centre hG I _, ?_⟩
  rintro r m ⟨k1, k2⟩
  have e : r = (-1) := k2.no (vx_n hn) hn
  have I := I.keep k1
  refine ⟨fun z => absurd e z, fun _ => ?_⟩
  refine ⟨_, q_median hG I _, ?_⟩
  rintro r m ⟨k1, k2⟩
  have e : r = (-1) := k2.no (vx_n hn) hn
  have I := I.keep k1
  refine ⟨fun z => absurd e z, fun _ => ?_⟩
  refine t_L_errors_316 hG _ _ ?_
  refine ⟨_, q_cost hG I _, ?_⟩
  rintro r m ⟨k1, k2⟩
  have e : r = (-1) := k2.no (vx_n hn) hn
  have I := I.keep k1
  refine ⟨fun z => absurd e z, fun _ => ?_⟩
  refine ⟨_, q_meeting hG I _ _ _, ?_⟩
  rintro r m ⟨k1, k2⟩
  have e : r = (-1) := by
      rcases k2 with ⟨-, h2⟩ | ⟨i, j, k, ⟨-, -, hk, -, -, e⟩, -⟩
      · exact h2
      · exact absurd (by rw [e]; exact Vx.of hk hn) (vx_n hn)
  have I := I.keep k1
  refine ⟨fun z => absurd e z, fun _ => ?_⟩
  refine ⟨_, q_rounds hG I _, ?_⟩
  rintro r m ⟨k1, k2⟩
  have e : r = (-1) := k2.no (vx_n hn) hn
  have I := I.keep k1
  refine ⟨fun z => absurd e z, fun _ => ?_⟩
  refine ⟨_, q_removalRound hG I _, ?_⟩
  rintro r m ⟨k1, k2⟩
  have e : r = (-1) := k2.no (vx_n hn) hn
  have I := I.keep k1
  refine ⟨fun z => absurd e z, fun _ => ?_⟩
  refine ⟨_, q_survivor hG I _, ?_⟩
  rintro r m ⟨k1, k2⟩
  have e : r = (-1) := k2.no (vx_n hn) hn
  have I := I.keep k1
  refine ⟨fun z => absurd e z, fun _ => ?_⟩
  refine ⟨_, q_balancedCut hG I _, ?_⟩
  rintro r m ⟨k1, k2⟩
  have e : r = (-1) := k2.no (vx_n hn) hn
  have I := I.keep k1
  refine ⟨fun z => absurd e z, fun _ => ?_⟩
  refine t_L_errors_372 hG _ _ (t_L_errors_378 hG _ _ _ ⟨fun z => absurd z (by decide), fun _ => ?_⟩)
  refine ⟨_, q_expectedReach hG I _ _, ?_⟩
  rintro r m ⟨k1, k2⟩
  have e : r = (-1) := by
      rcases k2 with ⟨-, h2⟩ | ⟨i, hi, e, -⟩
      · exact h2
      · exact absurd (by rw [e]; exact Vx.of hi hn) (vx_n hn)
  have I := I.keep k1
  refine ⟨fun z => absurd ((lg_eq _ _).mpr e) z, fun _ => ?_⟩
  refine ⟨_, q_expectedReach hG I _ _, ?_⟩
  rintro r m ⟨k1, k2⟩
  have e : r = (-2) := by
      rcases k2 with ⟨h1, -⟩ | ⟨i, hi, -, ⟨-, h2⟩ | ⟨d, hd, e, -⟩⟩
      · exact absurd v0 h1
      · exact h2
      · rw [i_eq, i_nI (by omega)] at e
        exact absurd e (by rw [i_11]; omega)
  have I := I.keep k1
  refine ⟨fun z => absurd ((lg_eq _ _).mpr e) z, fun _ => ?_⟩
  refine ⟨_, q_expectedReach hG I _ _, ?_⟩
  rintro r m ⟨k1, k2⟩
  have e : r = (-2) := by
      rcases k2 with ⟨h1, -⟩ | ⟨i, hi, -, ⟨-, h2⟩ | ⟨d, hd, e, -⟩⟩
      · exact absurd v0 h1
      · exact h2
      · rw [i_eq, i_nI (by omega)] at e
        exact absurd e (by rw [i_m1]; omega)
  have I := I.keep k1
  refine ⟨fun z => absurd ((lg_eq _ _).mpr e) z, fun _ => ?_⟩
  refine ⟨_, e_observe hG I (by unfold Obk; decide), ?_⟩
  rintro r m ⟨e, I⟩
  refine ⟨fun z => absurd e z, fun _ => ?_⟩
  refine ⟨_, e_observe hG I (by unfold Obk; decide), ?_⟩
  rintro r m ⟨e, I⟩
  refine ⟨fun z => absurd e z, fun _ => ?_⟩
  refine ⟨_, e_observe hG I (by unfold Obk; decide), ?_⟩
  rintro r m ⟨e, I⟩
  refine ⟨fun z => absurd e z, fun _ => ?_⟩
  refine t_L_errors_462 hG _ _ ?_
  refine ⟨_, q_possibleWeights hG I _ _, ?_⟩
  rintro r m ⟨k1, k2⟩
  have e : r = (-1) := k2.no (fun z => vx_n hn z.1) hn
  have I := I.keep k1
  refine ⟨fun z => absurd e z, fun _ => ?_⟩
  refine ⟨_, q_possibleWeights hG I _ _, ?_⟩
  rintro r m ⟨k1, k2⟩
  have e : r = (-3) := by
      have := TwoAns.of (i := 0) (j := 0) k2 n0 n0 hn
      rcases this with ⟨h1, -⟩ | ⟨-, h2⟩
      · rw [z00] at h1; exact absurd h1 (by decide)
      · exact h2
  have I := I.keep k1
  refine ⟨fun z => absurd e z, fun _ => ?_⟩
  refine ⟨_, q_runScript hG I _ _, ?_⟩
  rintro r m ⟨k1, k2⟩
  have e : r = (-2) := by
      rcases k2 with ⟨-, h2⟩ | ⟨k, s, h1, -⟩
      · exact h2
      · exact (ScrBad.no (Or.inl (by decide)) h1).elim
  have I := I.keep k1
  refine ⟨fun z => absurd e z, fun _ => ?_⟩
  refine ⟨_, q_runScript hG I _ _, ?_⟩
  rintro r m ⟨k1, k2⟩
  have e : r = (-2) := by
      rcases k2 with ⟨-, h2⟩ | ⟨k, s, h1, -⟩
      · exact h2
      · exact (ScrBad.no (Or.inl (by decide)) h1).elim
  have I := I.keep k1
  refine ⟨fun z => absurd e z, fun _ => ?_⟩
  refine ⟨_, q_runScript hG I _ _, ?_⟩
  rintro r m ⟨k1, k2⟩
  have e : r = (-2) := by
      rcases k2 with ⟨-, h2⟩ | ⟨k, s, h1, -⟩
      · exact h2
      · exact (ScrBad.no (Or.inr ⟨1, rfl, by decide, by decide, by decide⟩) h1).elim
  have I := I.keep k1
  refine ⟨fun z => absurd e z, fun _ => ?_⟩
  refine ⟨_, q_runScript hG I _ _, ?_⟩
  rintro r m ⟨k1, k2⟩
  have e : r = (-2) := by
      rcases k2 with ⟨-, h2⟩ | ⟨k, s, h1, -⟩
      · exact h2
      · exact (ScrBad.no (Or.inr ⟨1, rfl, by decide, by decide, by decide⟩) h1).elim
  have I := I.keep k1
  refine ⟨fun z => absurd e z, fun _ => ?_⟩
  refine t_L_errors_531 hG _ ?_
  refine ⟨_, q_randomChanges hG I _ _, ?_⟩
  rintro r m ⟨k1, k2⟩
  have e : r = (-2) := by
      rcases k2 with ⟨-, h2⟩ | ⟨k, h1, h2, h3, -⟩
      · exact h2
      · rw [i_eq, i_nI (by omega)] at h1
        exact absurd h1 (by rw [i_0]; omega)
  have I := I.keep k1
  refine ⟨fun z => absurd e z, fun _ => ?_⟩
  refine ⟨_, q_randomChanges hG I _ _, ?_⟩
  rintro r m ⟨k1, k2⟩
  have e : r = (-2) := by
      rcases k2 with ⟨-, h2⟩ | ⟨k, h1, h2, h3, -⟩
      · exact h2
      · rw [i_eq, i_nI (by omega)] at h1
        exact absurd h1 (by rw [show (61 : Int32).toInt = 61 from rfl]; omega)
  have I := I.keep k1
  refine ⟨fun z => absurd e z, fun _ => ?_⟩
  refine ⟨_, e_save hG I (by decide), ?_⟩
  rintro r m ⟨e, I⟩
  refine ⟨fun z => absurd e z, fun _ => ?_⟩
  refine ⟨_, e_restore hG I (by decide), ?_⟩
  rintro r m ⟨e, I⟩
  refine ⟨fun z => absurd e z, fun _ => ?_⟩
  exact ⟨rfl, I⟩
end LE
