/-! the law: what is built: distances, paths, centres, contraction, reach -/
section LB
variable {l : Launch} {G : Gx} {mem m m' : Mem} {S : Sta}
theorem smO_in {p : Nat → Prop} {f : Nat → Nat} {k : Nat} (h : p k) : smO p f (k + 1) = smO p f k + f k := by
  show smO p f k + ifc (p k) (f k) 0 = _
  rw [ifc_t h]
theorem smO_out {p : Nat → Prop} {f : Nat → Nat} {k : Nat} (h : ¬ p k) : smO p f (k + 1) = smO p f k := by
  show smO p f k + ifc (p k) (f k) 0 = _
  rw [ifc_f h]; rfl
theorem mxO_in {p : Nat → Prop} {f : Nat → Nat} {k : Nat} (h : p k) : mxO p f (k + 1) = max (mxO p f k) (f k) := ifc_t h
theorem mxO_out {p : Nat → Prop} {f : Nat → Nat} {k : Nat} (h : ¬ p k) : mxO p f (k + 1) = mxO p f k := ifc_f h
theorem n9_ne {k : Nat} (h : k < 2147483648) : ¬ nI k = -9 := i_n9 h
theorem nI_nn {k : Nat} (h : k < 2147483648) : ¬ nI k < 0 := fun z => by rw [i_lt, i_nI h, i_0] at z; omega
theorem qLK {M : MTy} {As : List Value} {A : Int64 → Prop} (I : At mem S) (h : CtL l M G As mem (fun r m => Keep mem m ∧ A r)) : CtL l M G As mem (fun r m => A r ∧ At m S) := h.mono fun _ _ k => ⟨k.2, I.keep k.1⟩
set_option maxHeartbeats 8000000 in
theorem l_built (hG : Mn G) (I : At mem S) {xx : Nat} (hx : xx < 2147483648) : CtI l M_L_built G [.ref (gA G 0), .int (nI xx)] mem (fun r m => r = 1 ∧ At m S) := by
  have hn := I.n12
  have n1 := I.n1
  have g := I.good
  have F := I.fst
  have Tr := F.tD
  obtain ⟨u, hu, eu⟩ : ∃ u, u < S.1 ∧ nI xx - nI xx / nI S.1 * nI S.1 = nI u := ⟨xx % S.1, Nat.mod_lt _ (by omega), rem_nI hx (by omega) (by omega)⟩
  obtain ⟨t, ht, et⟩ : ∃ t, t < S.1 ∧ (nI xx / 12) - (nI xx / 12) / nI S.1 * nI S.1 = nI t := ⟨xx / 12 % S.1, Nat.mod_lt _ (by omega), by rw [show nI xx / 12 = nI (xx / 12) from pk_div (d := 12) hx (by decide) (by decide)]; exact rem_nI (by omega) (by omega) (by omega)⟩
  have n0 : ¬ nI S.1 = 0 := fun z => by
    have := nI_inj (b := 0) (by omega) (by decide) z
    omega
  obtain ⟨T, z, hT, fT, cz, zp, zu, zr, ro, top⟩ := con F hu
  have hz : z < S.1 := Tr.v2 cz
  have cuu := Tr.rf hu
  -- what the queries of u answer
  have rT : ∀ r, aRnd S.1 S.2.1 u r → r = nI T := by
    rintro r ⟨T', -, f, e⟩
    rw [e, f.uq fT]
  have rz : ∀ r, aSur S.1 S.2.1 u r → r = nI z := by
    rintro r ⟨T', z', -, f, e, -, h1, -⟩
    have e1 := f.uq fT
    subst e1
    rw [e, zu z' h1]
  refine CtI_of (by decide) (Nat.le_of_ble_eq_true rfl) rfl (t_L_built_0 hG _ mem ?_)
  refine ⟨_, l_vertices hG I, ?_⟩
  rintro r m1 ⟨rfl, kp⟩
  have I := I.keep kp
  refine ⟨n0, ?_⟩
  rw [eu]
  refine ⟨_, qK I (q_survivor hG I _), ?_⟩
  rintro sv m2 ⟨esv, I⟩
  have esv : sv = nI z := rz _ (OneAns.of esv hu hn)
  subst esv
  refine ⟨_, qK I (q_treeOf hG I _), ?_⟩
  rintro tu m3 ⟨etu, I⟩
  have etu : aTree S.1 S.2.1 u tu := OneAns.of etu hu hn
  refine ⟨fun y => ?_, fun _ => ⟨_, qK I (q_distance hG I _ _), ?_⟩⟩
  · obtain ⟨q, q1, rfl, q2, q3⟩ := etu
    have y := (i_nlt (by omega) (by omega)).mp y
    exact absurd cuu (q3 u y)
  rintro du m4 ⟨edu, I⟩
  have edu : aDis S.1 S.2.1 u u du := TwoAns.of edu hu hu hn
  have edu : du = 0 := by
    rcases edu with ⟨-, q⟩ | ⟨q, -⟩
    · rw [q, Tr.d0 hu]; rfl
    · exact absurd cuu q
  refine ⟨fun y => absurd edu y, fun _ => ⟨_, qK I (q_treeOf hG I _), ?_⟩⟩
  rintro ts m5 ⟨ets, I⟩
  have ets : aTree S.1 S.2.1 z ts := OneAns.of ets hz hn
  refine ⟨_, qK I (q_treeOf hG I _), ?_⟩
  rintro tu2 m6 ⟨etu2, I⟩
  have etu2 : aTree S.1 S.2.1 u tu2 := OneAns.of etu2 hu hn
  refine ⟨fun y => absurd ((tree_iff g hz ets etu2).mpr (Tr.sy cz)) y, fun _ => t_L_built_63 hG _ _ _ _ _ _ _ _ _ _ (t_L_built_70 hG _ _ _ _ _ _ _ _ _ _ _ ?_)⟩
  clear etu2 ets etu
  have loop : ∀ (m : Mem) (a5 a6 : Int32) (a7 : Int64) (a9 a10 : Int32), At m S → (∃ q, a5 = nI q ∧ q ≤ 0 ∧ (q = 0 ↔ ∀ y, y < 0 → (gc S.1 S.2.1.2) u y → y = z)) → (∃ q, a6 = nI q ∧ q ≤ T ∧ ∀ y, y < 0 → (gc S.1 S.2.1.2) u y → ∀ i, i ≤ 11 → (StC (S0 S.2.1.2 (gc S.1 S.2.1.2) u) T).2.2 y = nI i → i ≤ q) → a7 = lN (smO ((gc S.1 S.2.1.2) u) (fun y => S.2.1.1 y * chn 7 ((gh S.1 S.2.1.2) u y)) 0) → a9 = nI (smO ((gc S.1 S.2.1.2) u) (fun y => (gd S.1 S.2.1.2) u y * S.2.1.1 y) 0) → a10 = nI (mxO ((gc S.1 S.2.1.2) u) ((gd S.1 S.2.1.2) u) 0) → XI l M_L_built G (fun r m => r = 1 ∧ At m S) m 73 [(0, .ref (gA G 0)), (1, .int (nI xx)), (2, .int (nI S.1)), (3, .int (nI u)), (4, .int (nI z)), (5, .int a5), (6, .int a6), (7, .long a7), (9, .int a9), (10, .int a10), (11, .int 1), (12, .int 0)] [] := by
    refine up_loop (P := fun v => ∀ (m : Mem) (a5 a6 : Int32) (a7 : Int64) (a9 a10 : Int32), At m S → (∃ q, a5 = nI q ∧ q ≤ v ∧ (q = 0 ↔ ∀ y, y < v → (gc S.1 S.2.1.2) u y → y = z)) → (∃ q, a6 = nI q ∧ q ≤ T ∧ ∀ y, y < v → (gc S.1 S.2.1.2) u y → ∀ i, i ≤ 11 → (StC (S0 S.2.1.2 (gc S.1 S.2.1.2) u) T).2.2 y = nI i → i ≤ q) → a7 = lN (smO ((gc S.1 S.2.1.2) u) (fun y => S.2.1.1 y * chn 7 ((gh S.1 S.2.1.2) u y)) v) → a9 = nI (smO ((gc S.1 S.2.1.2) u) (fun y => (gd S.1 S.2.1.2) u y * S.2.1.1 y) v) → a10 = nI (mxO ((gc S.1 S.2.1.2) u) ((gd S.1 S.2.1.2) u) v) → XI l M_L_built G (fun r m => r = 1 ∧ At m S) m 73 [(0, .ref (gA G 0)), (1, .int (nI xx)), (2, .int (nI S.1)), (3, .int (nI u)), (4, .int (nI z)), (5, .int a5), (6, .int a6), (7, .long a7), (9, .int a9), (10, .int a10), (11, .int 1), (12, .int (nI v))] []) (n := S.1) (Nat.zero_le _) ?_ ?_
    · -- the end
      intro m a5 a6 a7 a9 a10 I h5 h6 h7 h9 h10
      obtain ⟨gn, rfl, gn1, gn2⟩ := h5
      obtain ⟨ls, rfl, ls1, ls2⟩ := h6
      have eT : ls = T := by
        by_cases c0 : T = 0
        · omega
        · obtain ⟨y, y1, y2⟩ := top c0
          have := ls2 y (Tr.v2 y1) y1 T hT y2
          omega
      subst eT
      refine t_L_built_73 hG _ _ _ _ _ _ _ _ _ _ _ m ⟨fun _ => ?_, fun y => absurd ((i_nle (by omega) (by omega)).mpr (Nat.le_refl _)) y⟩
      refine t_L_built_746 hG _ _ _ _ _ _ _ _ m ⟨_, qK I (q_diameterEnd hG I _ _), ?_⟩
      rintro ea m ⟨hea, I⟩
      refine ⟨_, qK I (q_diameterEnd hG I _ _), ?_⟩
      rintro eb m ⟨heb, I⟩
      have hea : aEnd S.1 S.2.1 0 u ea := OneAns.of hea hu hn
      have heb : aEnd S.1 S.2.1 1 u eb := OneAns.of heb hu hn
      obtain ⟨a, b, aa, ab, rfl, rfl⟩ : ∃ a b, AMax ((gc S.1 S.2.1.2) u) (Ecc S.1 (gc S.1 S.2.1.2) (gd S.1 S.2.1.2)) S.1 a ∧ AMax ((gc S.1 S.2.1.2) a) ((gd S.1 S.2.1.2) a) S.1 b ∧ ea = nI a ∧ eb = nI b := by
        rcases hea with ⟨q, -⟩ | ⟨-, a, b, q1, q2, q3⟩
        · exact absurd (by decide) q
        · rcases heb with ⟨q, -⟩ | ⟨-, a', b', p1, p2, p3⟩
          · exact absurd (by decide) q
          · have e := q1.uq p1
            subst e
            have e := q2.uq p2
            subst e
            exact ⟨a, b, q1, q2, q3.trans (if_pos rfl), p3.trans (if_neg (by decide))⟩
      obtain ⟨ord, cub, dab⟩ := ends F aa ab
      have hb : b < S.1 := Tr.v2 cub
      have ha : a < S.1 := aa.1
      refine ⟨fun y => absurd y (by decide), fun _ => ⟨_, qK I (q_rounds hG I _), ?_⟩⟩
      rintro r m ⟨e, I⟩
      have e := rT _ (OneAns.of e hu hn)
      refine ⟨fun y => absurd e.symm y, fun _ => ⟨_, qK I (q_eccentricity hG I _), ?_⟩⟩
      rintro r m ⟨e, I⟩
      have e : r = nI (Ecc S.1 (gc S.1 S.2.1.2) (gd S.1 S.2.1.2) u) := OneAns.of e hu hn
      refine ⟨fun y => absurd (h10.trans e.symm) y, fun _ => ⟨_, qK I (q_cost hG I _), ?_⟩⟩
      rintro r m ⟨e, I⟩
      have e : r = nI (Cst S.1 S.2.1.1 (gc S.1 S.2.1.2) (gd S.1 S.2.1.2) u) := OneAns.of e hu hn
      have e2 : smO ((gc S.1 S.2.1.2) u) (fun y => (gd S.1 S.2.1.2) u y * S.2.1.1 y) S.1 = Cst S.1 S.2.1.1 (gc S.1 S.2.1.2) (gd S.1 S.2.1.2) u := smO_cong (fun y _ => ⟨fun q => Tr.sy q, fun q => Tr.sy q⟩) (fun y _ q => by rw [Tr.ds q, Nat.mul_comm])
      refine ⟨fun y => absurd (h9.trans (by rw [e, e2])) y, fun _ => ⟨_, qLK I (q_expectedReach hG I _ _), ?_⟩⟩
      rintro r m ⟨e, I⟩
      have e3 : smO ((gc S.1 S.2.1.2) u) (fun y => S.2.1.1 y * chn 7 ((gh S.1 S.2.1.2) u y)) S.1 = Rea S.1 S.2.1.1 (gc S.1 S.2.1.2) (gh S.1 S.2.1.2) 7 u := smO_cong (fun y _ => ⟨fun q => Tr.sy q, fun q => Tr.sy q⟩) (fun y _ q => by rw [F.tH.ds q])
      have e : r = lN (Rea S.1 S.2.1.1 (gc S.1 S.2.1.2) (gh S.1 S.2.1.2) 7 u) := by
        rcases e with ⟨q, -⟩ | ⟨i, hi, ei, q⟩
        · exact absurd (Vx.of hu hn) q
        · have ei := nI_inj (by omega) (by omega) ei
          subst ei
          rcases q with ⟨q, -⟩ | ⟨k, k1, k2, q⟩
          · exact absurd (by decide) q
          · have k2 := nI_inj (a := 3) (by decide) (by omega) k2
            subst k2
            exact q
      refine ⟨fun y => absurd ((lg_eq _ _).mpr (by rw [h7, e, e3])) y, fun _ => t_L_built_809 hG _ _ _ _ _ m ⟨fun y => ?_, fun _ => ⟨_, qK I (q_distance hG I _ _), ?_⟩⟩⟩
      · have y := (i_nlt (by omega) (by omega)).mp y
        omega
      rintro dd m ⟨edd, I⟩
      have edd : aDis S.1 S.2.1 a b dd := TwoAns.of edd ha hb hn
      have edd : dd = nI ((gd S.1 S.2.1.2) a b) := by
        rcases edd with ⟨-, q⟩ | ⟨q, -⟩
        · exact q
        · exact absurd ab.2.1 q
      refine ⟨_, qK I (q_diameter hG I _), ?_⟩
      rintro di m ⟨edi, I⟩
      have edi : di = nI (mxO ((gc S.1 S.2.1.2) u) (Ecc S.1 (gc S.1 S.2.1.2) (gd S.1 S.2.1.2)) S.1) := OneAns.of edi hu hn
      refine ⟨fun y => absurd (by rw [edd, edi, dab]) y, fun _ => ⟨_, qK I (q_treeOf hG I _), ?_⟩⟩
      rintro ta m ⟨eta, I⟩
      have eta : aTree S.1 S.2.1 a ta := OneAns.of eta ha hn
      refine ⟨_, qK I (q_treeOf hG I _), ?_⟩
      rintro tb m ⟨etb, I⟩
      have etb : aTree S.1 S.2.1 u tb := OneAns.of etb hu hn
      refine ⟨fun y => absurd ((tree_iff g ha eta etb).mpr (Tr.sy aa.2.1)) y, fun _ => ⟨_, qK I (q_centre hG I _), ?_⟩⟩
      rintro ce m ⟨ece, I⟩
      have ece : aCen S.1 S.2.1 u ce := OneAns.of ece hu hn
      obtain ⟨q, rfl, qa⟩ := ece
      have hq : q < S.1 := qa.1
      refine ⟨_, qK I (q_eccentricity hG I _), ?_⟩
      rintro ec m ⟨eec, I⟩
      have eec : ec = nI (Ecc S.1 (gc S.1 S.2.1.2) (gd S.1 S.2.1.2) q) := OneAns.of eec hq hn
      refine ⟨_, qK I (q_diameter hG I _), ?_⟩
      rintro di2 m ⟨edi2, I⟩
      have edi2 : di2 = nI (mxO ((gc S.1 S.2.1.2) u) (Ecc S.1 (gc S.1 S.2.1.2) (gd S.1 S.2.1.2)) S.1) := OneAns.of edi2 hu hn
      have bq := Ecc_le F q
      have wd := wide F qa.2.1
      refine ⟨fun y => ?_, fun _ => t_L_built_865 hG _ _ _ m ⟨_, qK I (q_runScript hG I _ _), ?_⟩⟩
      · rw [eec, edi2, show (2 : Int32) = nI 2 from rfl, pk_mul, i_nlt (by omega) (by omega)] at y
        omega
      have e100 : 100 * nI u = nI (100 * u) := pk_mul 100 u
      rintro r m ⟨e, I⟩
      have e : r = -9 := by
        refine scr_one (w := S.2.1.1) (E := S.2.1.2) (how := 3) (u := u) (v := z) (by decide) (by omega) (by omega) rfl ?_ e (cmd_3.mpr cz)
        rw [e100, nI_64 (by omega), nI_64 (by omega), show (30000 : Int64) = lN 30000 from rfl, lN_add, lN_add]
      refine ⟨fun y => absurd e y, fun _ => ⟨_, qK I (q_centre hG I _), ?_⟩⟩
      rintro ce2 m ⟨ece2, I⟩
      have ece2 : aCen S.1 S.2.1 u ce2 := OneAns.of ece2 hu hn
      have ece2 : ce2 = nI q := aCen.uq ece2 ⟨q, rfl, qa⟩
      refine ⟨_, qK I (q_runScript hG I _ _), ?_⟩
      rintro r m ⟨e, I⟩
      have e : r = -9 := by
        refine scr_one (w := S.2.1.1) (E := S.2.1.2) (how := 4) (u := u) (v := q) (by decide) (by omega) (by omega) rfl ?_ e (cmd_4.mpr ⟨qa.2.1, qa⟩)
        rw [ece2, e100, nI_64 (by omega), nI_64 (by omega), show (40000 : Int64) = lN 40000 from rfl, lN_add, lN_add]
      have last : ∀ m, At m S → XI l M_L_built G (fun r m => r = 1 ∧ At m S) m 927 [(0, .ref (gA G 0)), (3, .int (nI u)), (5, .int (nI gn))] [] := by
        intro m I
        refine t_L_built_927 hG _ _ m ⟨fun _ => t_L_built_950 hG m ⟨rfl, I⟩, fun y => ⟨_, qK I (q_balancedCut hG I _), ?_⟩⟩
        have g0 : gn = 0 := by
          apply Classical.byContradiction
          intro q
          exact y (by rw [i_lt, i_0, i_nI (by omega)]; omega)
        have al := gn2.mp g0
        have al' : ∀ y, (gc S.1 S.2.1.2) u y → y = u := fun y cy => (al y (Tr.v2 cy) cy).trans (al u hu cuu).symm
        rintro r m ⟨e, I⟩
        have e : aBal S.1 S.2.1 u r := OneAns.of e hu hn
        have e : r = -9 := bal_no F al' e
        refine ⟨fun y => absurd e y, fun _ => ⟨_, qK I (q_rounds hG I _), ?_⟩⟩
        rintro r m ⟨e, I⟩
        have e := rT _ (OneAns.of e hu hn)
        have T0 : ls = 0 := by
          apply Classical.byContradiction
          intro c0
          obtain ⟨y, y1, y2⟩ := top c0
          rw [al y (Tr.v2 y1) y1, zr] at y2
          exact n9_ne (by omega) y2.symm
        rw [T0] at e
        exact ⟨fun y => absurd e y, fun _ => t_L_built_950 hG m ⟨rfl, I⟩⟩
      refine ⟨fun y => absurd e y, fun _ => ⟨fun _ => last m I, fun y => ⟨_, qK I (q_balancedCut hG I _), ?_⟩⟩⟩
      have g0 : ¬ gn = 0 := fun q => y (by rw [q]; rfl)
      rintro r m ⟨e, I⟩
      have e : aBal S.1 S.2.1 u r := OneAns.of e hu hn
      have e : ¬ r < 0 := by
        apply Classical.byContradiction
        intro c0
        refine g0 (gn2.mpr (fun y hy cy => ?_))
        have one : ∀ y, (gc S.1 S.2.1.2) u y → y = u := fun y cy => by
          apply Classical.byContradiction
          intro ne
          exact c0 (bal_yes F cy ne e)
        rw [one y cy, one z cz]
      exact ⟨fun y => absurd y e, fun _ => last m I⟩
    · -- a vertex
      intro v _ hv ih m a5 a6 a7 a9 a10 I h5 h6 h7 h9 h10
      refine t_L_built_73 hG _ _ _ _ _ _ _ _ _ _ _ m ⟨fun y => absurd ((i_nle (by omega) (by omega)).mp y) (by omega), fun _ => ⟨fun y => absurd y (by decide), fun _ => ⟨_, qK I (q_distance hG I _ _), ?_⟩⟩⟩
      rintro d m ⟨ed, I⟩
      have ed : aDis S.1 S.2.1 u v d := TwoAns.of ed hu hv hn
      refine ⟨_, qK I (q_treeOf hG I _), ?_⟩
      rintro ta m ⟨eta, I⟩
      have eta : aTree S.1 S.2.1 u ta := OneAns.of eta hu hn
      refine ⟨_, qK I (q_treeOf hG I _), ?_⟩
      rintro tb m ⟨etb, I⟩
      have etb : aTree S.1 S.2.1 v tb := OneAns.of etb hv hn
      have nxt : ∀ (m : Mem) (a5 a6 : Int32) (a7 : Int64) (a9 a10 : Int32), At m S → (∃ q, a5 = nI q ∧ q ≤ v + 1 ∧ (q = 0 ↔ ∀ y, y < v + 1 → (gc S.1 S.2.1.2) u y → y = z)) → (∃ q, a6 = nI q ∧ q ≤ T ∧ ∀ y, y < v + 1 → (gc S.1 S.2.1.2) u y → ∀ i, i ≤ 11 → (StC (S0 S.2.1.2 (gc S.1 S.2.1.2) u) T).2.2 y = nI i → i ≤ q) → a7 = lN (smO ((gc S.1 S.2.1.2) u) (fun y => S.2.1.1 y * chn 7 ((gh S.1 S.2.1.2) u y)) (v + 1)) → a9 = nI (smO ((gc S.1 S.2.1.2) u) (fun y => (gd S.1 S.2.1.2) u y * S.2.1.1 y) (v + 1)) → a10 = nI (mxO ((gc S.1 S.2.1.2) u) ((gd S.1 S.2.1.2) u) (v + 1)) → XI l M_L_built G (fun r m => r = 1 ∧ At m S) m 740 [(0, .ref (gA G 0)), (1, .int (nI xx)), (2, .int (nI S.1)), (3, .int (nI u)), (4, .int (nI z)), (5, .int a5), (6, .int a6), (7, .long a7), (9, .int a9), (10, .int a10), (11, .int 1), (12, .int (nI v))] [] := by
        intro m a5 a6 a7 a9 a10 I h5 h6 h7 h9 h10
        refine t_L_built_740 hG _ _ _ _ _ _ _ _ _ _ _ m ?_
        rw [nI_1]
        exact ih m a5 a6 a7 a9 a10 I h5 h6 h7 h9 h10
      by_cases cv : (gc S.1 S.2.1.2) u v
      · -- of the tree
        have dl := F.dlt cv
        have ed : d = nI ((gd S.1 S.2.1.2) u v) := by
          rcases ed with ⟨-, q⟩ | ⟨q, -⟩
          · exact q
          · exact absurd cv q
        subst ed
        have cs := c_same F cv
        have hl := F.hle cv
        refine ⟨fun y => absurd ((tree_iff g hu eta etb).mpr cv) y, fun _ => ?_⟩
        clear eta etb
        -- far
        have far : ∀ m, At m S → XI l M_L_built G (fun r m => r = 1 ∧ At m S) m 241 [(0, .ref (gA G 0)), (1, .int (nI xx)), (2, .int (nI S.1)), (3, .int (nI u)), (4, .int (nI z)), (5, .int a5), (6, .int a6), (7, .long a7), (9, .int a9), (10, .int (nI (mxO ((gc S.1 S.2.1.2) u) ((gd S.1 S.2.1.2) u) (v + 1)))), (11, .int 1), (12, .int (nI v)), (13, .int (nI ((gd S.1 S.2.1.2) u v)))] [] := by
          intro m I
          refine t_L_built_241 hG _ _ _ _ _ _ _ _ _ _ _ _ m ⟨_, qK I (q_vertexWeight hG I _), ?_⟩
          rintro r m ⟨e, I⟩
          have e : r = nI (S.2.1.1 v) := OneAns.of e hv hn
          subst e
          have b9 : a9 + nI ((gd S.1 S.2.1.2) u v) * nI (S.2.1.1 v) = nI (smO ((gc S.1 S.2.1.2) u) (fun y => (gd S.1 S.2.1.2) u y * S.2.1.1 y) (v + 1)) := by
            rw [h9, pk_mul, nI_add, smO_in cv]
          rw [b9]
          -- behind the path
          have tail : ∀ m, At m S → XI l M_L_built G (fun r m => r = 1 ∧ At m S) m 346 [(0, .ref (gA G 0)), (1, .int (nI xx)), (2, .int (nI S.1)), (3, .int (nI u)), (4, .int (nI z)), (5, .int a5), (6, .int a6), (7, .long a7), (9, .int (nI (smO ((gc S.1 S.2.1.2) u) (fun y => (gd S.1 S.2.1.2) u y * S.2.1.1 y) (v + 1)))), (10, .int (nI (mxO ((gc S.1 S.2.1.2) u) ((gd S.1 S.2.1.2) u) (v + 1)))), (11, .int 1), (12, .int (nI v)), (13, .int (nI ((gd S.1 S.2.1.2) u v))), (15, .int (nI ((gd S.1 S.2.1.2) u v))), (17, .int (nI ((gh S.1 S.2.1.2) u v)))] [] := by
            intro m I
            refine t_L_built_346 hG _ _ _ _ _ _ _ _ _ _ _ _ _ _ m ⟨_, qK I (q_vertexWeight hG I _), ?_⟩
            rintro r m ⟨e, I⟩
            have e : r = nI (S.2.1.1 v) := OneAns.of e hv hn
            subst e
            have w9 := I.w9 v hv
            rw [nI_64 (by omega)]
            refine up_loop (P := fun k => ∀ m, At m S → XI l M_L_built G (fun r m => r = 1 ∧ At m S) m 358 [(0, .ref (gA G 0)), (1, .int (nI xx)), (2, .int (nI S.1)), (3, .int (nI u)), (4, .int (nI z)), (5, .int a5), (6, .int a6), (7, .long a7), (9, .int (nI (smO ((gc S.1 S.2.1.2) u) (fun y => (gd S.1 S.2.1.2) u y * S.2.1.1 y) (v + 1)))), (10, .int (nI (mxO ((gc S.1 S.2.1.2) u) ((gd S.1 S.2.1.2) u) (v + 1)))), (11, .int 1), (12, .int (nI v)), (13, .int (nI ((gd S.1 S.2.1.2) u v))), (15, .int (nI ((gd S.1 S.2.1.2) u v))), (17, .int (nI ((gh S.1 S.2.1.2) u v))), (18, .long (lN (prt ((gh S.1 S.2.1.2) u v) (S.2.1.1 v) k))), (20, .int (nI k))] []) (n := 11) (Nat.zero_le _) ?_ ?_ m I
            · intro m I
              refine t_L_built_358 hG _ _ _ _ _ _ _ _ _ _ _ _ _ _ _ _ m ⟨fun _ => ⟨fun y => absurd y (by decide), fun _ => ⟨fun y => absurd rfl y, fun _ => ⟨_, qK I (q_pathVertex hG I _ _ _), ?_⟩⟩⟩, fun y => absurd (by decide) y⟩
              have b7 : a7 + lN (prt ((gh S.1 S.2.1.2) u v) (S.2.1.1 v) 11) = lN (smO ((gc S.1 S.2.1.2) u) (fun y => S.2.1.1 y * chn 7 ((gh S.1 S.2.1.2) u y)) (v + 1)) := by
                rw [h7, lN_add, prt_11 hl, smO_in cv]
              rw [b7]
              rintro r m ⟨e, I⟩
              rw [nI_1] at e
              have e : aPth S.1 S.2.1 (nI ((gh S.1 S.2.1.2) u v + 1)) u v r := TwoAns.of e hu hv hn
              have e : r = -9 := by
                rcases e with ⟨q, -⟩ | ⟨-, q⟩
                · rw [i_nI (by omega)] at q; omega
                · exact path_end F (by rw [i_nI (by omega)]; omega) cv q
              refine ⟨fun y => absurd e y, fun _ => ⟨_, qK I (q_diameter hG I _), ?_⟩⟩
              rintro d1 m ⟨e1, I⟩
              have e1 : aDia S.1 S.2.1 v d1 := OneAns.of e1 hv hn
              refine ⟨_, qK I (q_diameter hG I _), ?_⟩
              rintro d2 m ⟨e2, I⟩
              have e2 : aDia S.1 S.2.1 u d2 := OneAns.of e2 hu hn
              refine ⟨fun y => absurd ((aDia_same cs e1).uq e2) y, fun _ => ⟨_, qK I (q_centre hG I _), ?_⟩⟩
              rintro c1 m ⟨e1, I⟩
              have e1 : aCen S.1 S.2.1 v c1 := OneAns.of e1 hv hn
              refine ⟨_, qK I (q_centre hG I _), ?_⟩
              rintro c2 m ⟨e2, I⟩
              have e2 : aCen S.1 S.2.1 u c2 := OneAns.of e2 hu hn
              refine ⟨fun y => absurd ((aCen_same cs e1).uq e2) y, fun _ => ⟨_, qK I (q_median hG I _), ?_⟩⟩
              rintro c1 m ⟨e1, I⟩
              have e1 : aMed S.1 S.2.1 v c1 := OneAns.of e1 hv hn
              refine ⟨_, qK I (q_median hG I _), ?_⟩
              rintro c2 m ⟨e2, I⟩
              have e2 : aMed S.1 S.2.1 u c2 := OneAns.of e2 hu hn
              refine ⟨fun y => absurd ((aMed_same cs e1).uq e2) y, fun _ => ?_⟩
              refine t_L_built_469 hG _ _ _ _ _ _ _ _ _ _ _ m ⟨_, qK I (q_survivor hG I _), ?_⟩
              rintro r m ⟨e, I⟩
              have e : aSur S.1 S.2.1 v r := OneAns.of e hv hn
              refine ⟨fun y => absurd (rz _ (aSur_same cs e)) y, fun _ => ⟨_, qK I (q_rounds hG I _), ?_⟩⟩
              rintro r1 m ⟨e1, I⟩
              have e1 : aRnd S.1 S.2.1 v r1 := OneAns.of e1 hv hn
              refine ⟨_, qK I (q_rounds hG I _), ?_⟩
              rintro r2 m ⟨e2, I⟩
              have e2 : aRnd S.1 S.2.1 u r2 := OneAns.of e2 hu hn
              refine ⟨fun y => absurd ((aRnd_same cs e1).uq e2) y, fun _ => ⟨_, qK I (q_eccentricity hG I _), ?_⟩⟩
              rintro r1 m ⟨e1, I⟩
              have e1 : r1 = nI (Ecc S.1 (gc S.1 S.2.1.2) (gd S.1 S.2.1.2) v) := OneAns.of e1 hv hn
              refine ⟨_, qK I (q_centre hG I _), ?_⟩
              rintro r2 m ⟨e2, I⟩
              have e2 : aCen S.1 S.2.1 u r2 := OneAns.of e2 hu hn
              obtain ⟨q, rfl, qa⟩ := e2
              refine ⟨_, qK I (q_eccentricity hG I _), ?_⟩
              rintro r3 m ⟨e3, I⟩
              have e3 : r3 = nI (Ecc S.1 (gc S.1 S.2.1.2) (gd S.1 S.2.1.2) q) := OneAns.of e3 qa.1 hn
              have b1 := Ecc_le F v
              have b2 := Ecc_le F q
              have le := qa.2.2.1 v hv cv
              refine ⟨fun y => ?_, fun _ => t_L_built_512 hG _ _ _ _ _ _ _ _ _ _ _ m ⟨_, qK I (q_cost hG I _), ?_⟩⟩
              · rw [e1, e3, i_nlt (by omega) (by omega)] at y
                omega
              rintro r1 m ⟨e1, I⟩
              have e1 : r1 = nI (Cst S.1 S.2.1.1 (gc S.1 S.2.1.2) (gd S.1 S.2.1.2) v) := OneAns.of e1 hv hn
              refine ⟨_, qK I (q_median hG I _), ?_⟩
              rintro r2 m ⟨e2, I⟩
              have e2 : aMed S.1 S.2.1 u r2 := OneAns.of e2 hu hn
              obtain ⟨q', rfl, qa'⟩ := e2
              refine ⟨_, qK I (q_cost hG I _), ?_⟩
              rintro r3 m ⟨e3, I⟩
              have e3 : r3 = nI (Cst S.1 S.2.1.1 (gc S.1 S.2.1.2) (gd S.1 S.2.1.2) q') := OneAns.of e3 qa'.1 hn
              have b3 := Cst_le F v
              have b4 := Cst_le F q'
              have le' := qa'.2.2.1 v hv cv
              refine ⟨fun y => ?_, fun _ => ⟨_, qK I (q_eccentricity hG I _), ?_⟩⟩
              · rw [e1, e3, i_nlt (by omega) (by omega)] at y
                omega
              rintro r1 m ⟨e1, I⟩
              have e1 : r1 = nI (Ecc S.1 (gc S.1 S.2.1.2) (gd S.1 S.2.1.2) v) := OneAns.of e1 hv hn
              refine ⟨_, qK I (q_diameter hG I _), ?_⟩
              rintro r2 m ⟨e2, I⟩
              have e2 : r2 = nI (mxO ((gc S.1 S.2.1.2) u) (Ecc S.1 (gc S.1 S.2.1.2) (gd S.1 S.2.1.2)) S.1) := OneAns.of e2 hu hn
              have le2 : Ecc S.1 (gc S.1 S.2.1.2) (gd S.1 S.2.1.2) v ≤ mxO ((gc S.1 S.2.1.2) u) (Ecc S.1 (gc S.1 S.2.1.2) (gd S.1 S.2.1.2)) S.1 := mxO_ub hv cv
              have b5 : mxO ((gc S.1 S.2.1.2) u) (Ecc S.1 (gc S.1 S.2.1.2) (gd S.1 S.2.1.2)) S.1 ≤ 1089 := mxO_le (fun y _ _ => Ecc_le F y)
              refine ⟨fun y => ?_, fun _ => t_L_built_551 hG _ _ _ _ _ _ _ _ _ _ _ _ m ⟨_, qK I (q_removalRound hG I _), ?_⟩⟩
              · rw [e1, e2, i_nlt (by omega) (by omega)] at y
                omega
              rintro rr m ⟨er, I⟩
              have er : aRem S.1 S.2.1 v rr := OneAns.of er hv hn
              have er : rr = (StC (S0 S.2.1.2 (gc S.1 S.2.1.2) u) T).2.2 v := by
                obtain ⟨T', -, f, e⟩ := er
                rw [S0_same cs] at f e
                rw [e, f.uq fT]
              -- the meeting vertex, behind the counts
              have meet : ∀ (m : Mem) (b5 b6 : Int32), At m S → (∃ q, b5 = nI q ∧ q ≤ v + 1 ∧ (q = 0 ↔ ∀ y, y < v + 1 → (gc S.1 S.2.1.2) u y → y = z)) → (∃ q, b6 = nI q ∧ q ≤ T ∧ ∀ y, y < v + 1 → (gc S.1 S.2.1.2) u y → ∀ i, i ≤ 11 → (StC (S0 S.2.1.2 (gc S.1 S.2.1.2) u) T).2.2 y = nI i → i ≤ q) → XI l M_L_built G (fun r m => r = 1 ∧ At m S) m 641 [(0, .ref (gA G 0)), (1, .int (nI xx)), (2, .int (nI S.1)), (3, .int (nI u)), (4, .int (nI z)), (5, .int b5), (6, .int b6), (7, .long (lN (smO ((gc S.1 S.2.1.2) u) (fun y => S.2.1.1 y * chn 7 ((gh S.1 S.2.1.2) u y)) (v + 1)))), (9, .int (nI (smO ((gc S.1 S.2.1.2) u) (fun y => (gd S.1 S.2.1.2) u y * S.2.1.1 y) (v + 1)))), (10, .int (nI (mxO ((gc S.1 S.2.1.2) u) ((gd S.1 S.2.1.2) u) (v + 1)))), (11, .int 1), (12, .int (nI v)), (13, .int (nI ((gd S.1 S.2.1.2) u v)))] [] := by
                intro m b5 b6 I h5 h6
                refine t_L_built_641 hG _ _ _ _ _ _ _ _ _ _ _ _ m ⟨n0, ?_⟩
                rw [et]
                have go : ∀ m, At m S → XI l M_L_built G (fun r m => r = 1 ∧ At m S) m 740 [(0, .ref (gA G 0)), (1, .int (nI xx)), (2, .int (nI S.1)), (3, .int (nI u)), (4, .int (nI z)), (5, .int b5), (6, .int b6), (7, .long (lN (smO ((gc S.1 S.2.1.2) u) (fun y => S.2.1.1 y * chn 7 ((gh S.1 S.2.1.2) u y)) (v + 1)))), (9, .int (nI (smO ((gc S.1 S.2.1.2) u) (fun y => (gd S.1 S.2.1.2) u y * S.2.1.1 y) (v + 1)))), (10, .int (nI (mxO ((gc S.1 S.2.1.2) u) ((gd S.1 S.2.1.2) u) (v + 1)))), (11, .int 1), (12, .int (nI v))] [] := fun m I => nxt m b5 b6 _ _ _ I h5 h6 rfl rfl rfl
                refine ⟨_, qK I (q_meeting hG I _ _ _), ?_⟩
                rintro r m ⟨e, I⟩
                refine ⟨fun _ => go m I, fun y => ⟨fun y => absurd y (by decide), fun _ => ?_⟩⟩
                obtain ⟨ct, x, rfl, hm, hl⟩ : (gc S.1 S.2.1.2) u t ∧ ∃ x, r = nI x ∧ Meet (gc S.1 S.2.1.2) (gd S.1 S.2.1.2) u v t x ∧ ∀ y, y < x → ¬ Meet (gc S.1 S.2.1.2) (gd S.1 S.2.1.2) u v t y := by
                  rcases e with ⟨q, -⟩ | ⟨i, j, k, ⟨i1, i2, i3, i4, i5, i6⟩, q⟩
                  · exact absurd ⟨Vx.of hu hn, Vx.of hv hn, Vx.of ht hn⟩ q
                  · have i4 := nI_inj (by omega) (by omega) i4
                    have i5 := nI_inj (by omega) (by omega) i5
                    have i6 := nI_inj (by omega) (by omega) i6
                    subst i4; subst i5; subst i6
                    rcases q with ⟨-, q⟩ | ⟨q1, q2⟩
                    · exact absurd q y
                    · exact ⟨q1.2, q2⟩
                have hx' : x < S.1 := Tr.v2 hm.1
                have cxv : (gc S.1 S.2.1.2) x v := Tr.tr (Tr.sy hm.1) cv
                have cxt : (gc S.1 S.2.1.2) x t := Tr.tr (Tr.sy hm.1) ct
                refine ⟨_, qK I (q_distance hG I _ _), ?_⟩
                rintro d1 m ⟨e1, I⟩
                have e1 : aDis S.1 S.2.1 u x d1 := TwoAns.of e1 hu hx' hn
                have e1 : d1 = nI ((gd S.1 S.2.1.2) u x) := by
                  rcases e1 with ⟨-, q⟩ | ⟨q, -⟩
                  · exact q
                  · exact absurd hm.1 q
                refine ⟨_, qK I (q_distance hG I _ _), ?_⟩
                rintro d2 m ⟨e2, I⟩
                have e2 : aDis S.1 S.2.1 x v d2 := TwoAns.of e2 hx' hv hn
                have e2 : d2 = nI ((gd S.1 S.2.1.2) x v) := by
                  rcases e2 with ⟨-, q⟩ | ⟨q, -⟩
                  · exact q
                  · exact absurd cxv q
                refine ⟨fun y => absurd (by rw [e1, e2, nI_add, hm.2.1]) y, fun _ => ⟨_, qK I (q_distance hG I _ _), ?_⟩⟩
                rintro d3 m ⟨e3, I⟩
                have e3 : aDis S.1 S.2.1 u x d3 := TwoAns.of e3 hu hx' hn
                have e3 : d3 = nI ((gd S.1 S.2.1.2) u x) := by
                  rcases e3 with ⟨-, q⟩ | ⟨q, -⟩
                  · exact q
                  · exact absurd hm.1 q
                refine ⟨_, qK I (q_distance hG I _ _), ?_⟩
                rintro d4 m ⟨e4, I⟩
                have e4 : aDis S.1 S.2.1 x t d4 := TwoAns.of e4 hx' ht hn
                have e4 : d4 = nI ((gd S.1 S.2.1.2) x t) := by
                  rcases e4 with ⟨-, q⟩ | ⟨q, -⟩
                  · exact q
                  · exact absurd cxt q
                refine ⟨_, qK I (q_distance hG I _ _), ?_⟩
                rintro d5 m ⟨e5, I⟩
                have e5 : aDis S.1 S.2.1 u t d5 := TwoAns.of e5 hu ht hn
                have e5 : d5 = nI ((gd S.1 S.2.1.2) u t) := by
                  rcases e5 with ⟨-, q⟩ | ⟨q, -⟩
                  · exact q
                  · exact absurd ct q
                refine ⟨fun y => absurd (by rw [e3, e4, e5, nI_add, hm.2.2.1]) y, fun _ => t_L_built_719 hG _ _ _ _ _ _ _ _ _ _ _ _ m ⟨_, qK I (q_meeting hG I _ _ _), ?_⟩⟩
                rintro r m ⟨e, I⟩
                have e : r = nI x := by
                  rcases e with ⟨q, -⟩ | ⟨i, j, k, ⟨i1, i2, i3, i4, i5, i6⟩, q⟩
                  · exact absurd ⟨Vx.of ht hn, Vx.of hv hn, Vx.of hu hn⟩ q
                  · have i4 := nI_inj (by omega) (by omega) i4
                    have i5 := nI_inj (by omega) (by omega) i5
                    have i6 := nI_inj (by omega) (by omega) i6
                    subst i4; subst i5; subst i6
                    rcases q with ⟨q, -⟩ | ⟨q1, x', q2, q3, q4⟩
                    · exact absurd ⟨Tr.tr (Tr.sy ct) cv, Tr.sy ct⟩ q
                    · rw [q2, least_uq (p := Meet (gc S.1 S.2.1.2) (gd S.1 S.2.1.2) t v u) q3 q4 ((Meet.sw F cv ct).mp hm) (fun y hy q => hl y hy ((Meet.sw F cv ct).mpr q))]
                exact ⟨fun y => absurd e y, fun _ => go m I⟩
              obtain ⟨gn, rfl, gn1, gn2⟩ := h5
              obtain ⟨ls, rfl, ls1, ls2⟩ := h6
              by_cases vz : v = z
              · -- the survivor
                have er9 : rr = -9 := by rw [er, vz, zr]
                subst er9
                have cnt : ∀ m, At m S → XI l M_L_built G (fun r m => r = 1 ∧ At m S) m 608 [(0, .ref (gA G 0)), (1, .int (nI xx)), (2, .int (nI S.1)), (3, .int (nI u)), (4, .int (nI z)), (5, .int (nI gn)), (6, .int (nI ls)), (7, .long (lN (smO ((gc S.1 S.2.1.2) u) (fun y => S.2.1.1 y * chn 7 ((gh S.1 S.2.1.2) u y)) (v + 1)))), (9, .int (nI (smO ((gc S.1 S.2.1.2) u) (fun y => (gd S.1 S.2.1.2) u y * S.2.1.1 y) (v + 1)))), (10, .int (nI (mxO ((gc S.1 S.2.1.2) u) ((gd S.1 S.2.1.2) u) (v + 1)))), (11, .int 1), (12, .int (nI v)), (13, .int (nI ((gd S.1 S.2.1.2) u v))), (20, .int (-9))] [] := by
                  intro m I
                  refine t_L_built_608 hG _ _ _ _ _ _ _ _ _ _ _ _ _ m ⟨fun _ => ?_, fun y => absurd (by rw [i_le, i_nI (by omega), i_m9]; omega) y⟩
                  refine t_L_built_624 hG _ _ _ _ _ _ _ _ _ _ _ _ _ m ⟨fun y => absurd rfl y, fun _ => ?_⟩
                  rw [show nI gn + 0 = nI gn from nI_add gn 0]
                  refine meet m _ _ I ⟨gn, rfl, by omega, gn2.trans ⟨fun h y hy cy => ?_, fun h y hy cy => h y (by omega) cy⟩⟩ ⟨ls, rfl, ls1, fun y hy cy i hi ei => ?_⟩
                  · rcases Nat.lt_or_ge y v with q | q
                    · exact h y q cy
                    · rw [← vz]; omega
                  · rcases Nat.lt_or_ge y v with q | q
                    · exact ls2 y q cy i hi ei
                    · rw [show y = z by omega, zr] at ei
                      exact absurd ei.symm (n9_ne (by omega))
                refine ⟨fun y => absurd y (by decide), fun _ => ⟨fun y => absurd rfl y, fun _ => ⟨fun y => absurd (congrArg nI vz) y, fun _ => ⟨fun y => absurd rfl y, fun _ => ⟨_, qK I (q_rounds hG I _), ?_⟩⟩⟩⟩⟩
                rintro r m ⟨e, I⟩
                have e := rT _ (OneAns.of e hu hn)
                exact ⟨fun y => absurd y (by rw [e, i_lt, i_nI (by omega), i_m9]; omega), fun _ => cnt m I⟩
              · obtain ⟨i, i1, i2, i3⟩ := ro v cv vz
                have eri : rr = nI i := er.trans i3
                subst eri
                have cnt : ∀ m, At m S → XI l M_L_built G (fun r m => r = 1 ∧ At m S) m 608 [(0, .ref (gA G 0)), (1, .int (nI xx)), (2, .int (nI S.1)), (3, .int (nI u)), (4, .int (nI z)), (5, .int (nI gn)), (6, .int (nI ls)), (7, .long (lN (smO ((gc S.1 S.2.1.2) u) (fun y => S.2.1.1 y * chn 7 ((gh S.1 S.2.1.2) u y)) (v + 1)))), (9, .int (nI (smO ((gc S.1 S.2.1.2) u) (fun y => (gd S.1 S.2.1.2) u y * S.2.1.1 y) (v + 1)))), (10, .int (nI (mxO ((gc S.1 S.2.1.2) u) ((gd S.1 S.2.1.2) u) (v + 1)))), (11, .int 1), (12, .int (nI v)), (13, .int (nI ((gd S.1 S.2.1.2) u v))), (20, .int (nI i))] [] := by
                  intro m I
                  have five : ∃ q, nI (gn + 1) = nI q ∧ q ≤ v + 1 ∧ (q = 0 ↔ ∀ y, y < v + 1 → (gc S.1 S.2.1.2) u y → y = z) := ⟨gn + 1, rfl, by omega, ⟨fun q => by omega, fun h => absurd (h v (by omega) cv) vz⟩⟩
                  have six : ∀ q, ls ≤ q → i ≤ q → q ≤ T → ∃ q', nI q = nI q' ∧ q' ≤ T ∧ ∀ y, y < v + 1 → (gc S.1 S.2.1.2) u y → ∀ i, i ≤ 11 → (StC (S0 S.2.1.2 (gc S.1 S.2.1.2) u) T).2.2 y = nI i → i ≤ q' := fun q q1 q2 q3 => ⟨q, rfl, q3, fun y hy cy i' hi' ei => by
                    rcases Nat.lt_or_ge y v with p | p
                    · have := ls2 y p cy i' hi' ei; omega
                    · rw [show y = v by omega, i3] at ei
                      have := nI_inj (by omega) (by omega) ei
                      omega⟩
                  have after : ∀ m q, At m S → ls ≤ q → i ≤ q → q ≤ T → XI l M_L_built G (fun r m => r = 1 ∧ At m S) m 624 [(0, .ref (gA G 0)), (1, .int (nI xx)), (2, .int (nI S.1)), (3, .int (nI u)), (4, .int (nI z)), (5, .int (nI gn)), (6, .int (nI q)), (7, .long (lN (smO ((gc S.1 S.2.1.2) u) (fun y => S.2.1.1 y * chn 7 ((gh S.1 S.2.1.2) u y)) (v + 1)))), (9, .int (nI (smO ((gc S.1 S.2.1.2) u) (fun y => (gd S.1 S.2.1.2) u y * S.2.1.1 y) (v + 1)))), (10, .int (nI (mxO ((gc S.1 S.2.1.2) u) ((gd S.1 S.2.1.2) u) (v + 1)))), (11, .int 1), (12, .int (nI v)), (13, .int (nI ((gd S.1 S.2.1.2) u v))), (20, .int (nI i))] [] := by
                    intro m q I q1 q2 q3
                    refine t_L_built_624 hG _ _ _ _ _ _ _ _ _ _ _ _ _ m ⟨fun _ => ?_, fun y => absurd y (n9_ne (by omega))⟩
                    rw [nI_1]
                    exact meet m _ _ I five (six q q1 q2 q3)
                  refine t_L_built_608 hG _ _ _ _ _ _ _ _ _ _ _ _ _ m ⟨fun y => after m ls I (Nat.le_refl _) ((i_nle (by omega) (by omega)).mp y) ls1, fun y => after m i I ?_ (Nat.le_refl _) i2⟩
                  rw [i_nle (by omega) (by omega)] at y
                  omega
                refine ⟨fun y => absurd y (by decide), fun _ => ⟨fun _ => ⟨fun _ => ⟨fun y => absurd rfl y, fun _ => ⟨_, qK I (q_rounds hG I _), ?_⟩⟩, fun y => absurd (nI_inj (by omega) (by omega) y) vz⟩, fun y => absurd y (n9_ne (by omega))⟩⟩
                rintro r m ⟨e, I⟩
                have e := rT _ (OneAns.of e hu hn)
                exact ⟨fun y => absurd y (by rw [e, i_nlt (by omega) (by omega)]; omega), fun _ => cnt m I⟩
            · intro k _ hk ih2 m I
              refine t_L_built_358 hG _ _ _ _ _ _ _ _ _ _ _ _ _ _ _ _ m ⟨fun y => absurd ((i_nle (a := 11) (by decide) (by omega)).mp y) (by omega), fun _ => ⟨fun y => ?_, fun y => ?_⟩⟩
              · have y := (i_nle (by omega) (by omega)).mp y
                refine t_L_built_386 hG _ _ _ _ _ _ _ _ _ _ _ _ _ _ _ _ m ?_
                have e : lN (prt ((gh S.1 S.2.1.2) u v) (S.2.1.1 v) k) * 10 = lN (prt ((gh S.1 S.2.1.2) u v) (S.2.1.1 v) (k + 1)) := by
                  rw [show (10 : Int64) = lN 10 from rfl, lN_mul]
                  show _ = lN (prt ((gh S.1 S.2.1.2) u v) (S.2.1.1 v) k * (if k < (gh S.1 S.2.1.2) u v then 7 else 10))
                  rw [if_neg (by omega)]
                rw [e, nI_1]
                exact ih2 m I
              · rw [i_nle (by omega) (by omega)] at y
                refine t_L_built_386 hG _ _ _ _ _ _ _ _ _ _ _ _ _ _ _ _ m ?_
                have e : lN (prt ((gh S.1 S.2.1.2) u v) (S.2.1.1 v) k) * 7 = lN (prt ((gh S.1 S.2.1.2) u v) (S.2.1.1 v) (k + 1)) := by
                  rw [show (7 : Int64) = lN 7 from rfl, lN_mul]
                  show _ = lN (prt ((gh S.1 S.2.1.2) u v) (S.2.1.1 v) k * (if k < (gh S.1 S.2.1.2) u v then 7 else 10))
                  rw [if_pos (by omega)]
                rw [e, nI_1]
                exact ih2 m I
          -- the path
          refine up_loop (P := fun k => ∀ (m : Mem) (p s : Nat), At m S → PA S.2.1.2 (gd S.1 S.2.1.2) u v k p → s + (gd S.1 S.2.1.2) p v = (gd S.1 S.2.1.2) u v → XI l M_L_built G (fun r m => r = 1 ∧ At m S) m 264 [(0, .ref (gA G 0)), (1, .int (nI xx)), (2, .int (nI S.1)), (3, .int (nI u)), (4, .int (nI z)), (5, .int a5), (6, .int a6), (7, .long a7), (9, .int (nI (smO ((gc S.1 S.2.1.2) u) (fun y => (gd S.1 S.2.1.2) u y * S.2.1.1 y) (v + 1)))), (10, .int (nI (mxO ((gc S.1 S.2.1.2) u) ((gd S.1 S.2.1.2) u) (v + 1)))), (11, .int 1), (12, .int (nI v)), (13, .int (nI ((gd S.1 S.2.1.2) u v))), (15, .int (nI s)), (16, .int (nI p)), (17, .int (nI k))] []) (n := (gh S.1 S.2.1.2) u v) (Nat.zero_le _) ?_ ?_ m u 0 I rfl (Nat.zero_add _)
          · intro m p s I hp hs
            have on := PA.on F cv hp
            have pv : p = v := F.tH.d00 on.1 (by omega)
            subst pv
            have e0 : (gd S.1 S.2.1.2) p p = 0 := Tr.d0 hv
            have es : s = (gd S.1 S.2.1.2) u p := by omega
            subst es
            exact t_L_built_264 hG _ _ _ _ _ _ _ _ _ _ _ _ _ _ _ m ⟨fun _ => tail m I, fun y => absurd rfl y⟩
          · intro k _ hk ih2 m p s I hp hs
            have on := PA.on F cv hp
            have hp' : p < S.1 := Tr.v1 on.1
            have pv : p ≠ v := fun e => by
              subst e
              have := F.tH.d0 hv
              omega
            refine t_L_built_264 hG _ _ _ _ _ _ _ _ _ _ _ _ _ _ _ m ⟨fun y => absurd (nI_inj (by omega) (by omega) y) pv, fun _ => ⟨fun y => absurd y (by decide), fun _ => ⟨_, qK I (q_pathVertex hG I _ _ _), ?_⟩⟩⟩
            rintro r m ⟨e, I⟩
            rw [nI_1] at e
            have e : aPth S.1 S.2.1 (nI (k + 1)) u v r := TwoAns.of e hu hv hn
            obtain ⟨y, rfl, hy, py, nx⟩ : ∃ y, r = nI y ∧ y < S.1 ∧ PA S.2.1.2 (gd S.1 S.2.1.2) u v (k + 1) y ∧ Nxt S.2.1.2 (gd S.1 S.2.1.2) p v y := by
              rcases e with ⟨q, -⟩ | ⟨-, q⟩
              · rw [i_nI (by omega)] at q; omega
              · exact path_next F (by rw [i_nI (by omega)]) cv hp pv q
            have be := g.2.2.1 p y
            refine ⟨fun q => absurd q (nI_nn (by omega)), fun _ => ⟨_, qK I (q_edgeWeight hG I _ _), ?_⟩⟩
            rintro r m ⟨e, I⟩
            have e : aEw S.1 S.2.1 p y r := TwoAns.of e hp' hy hn
            have e : r = nI (S.2.1.2 p y) := by
              rcases e with ⟨-, q⟩ | ⟨q, -⟩
              · exact q
              · have := nx.1; omega
            refine ⟨fun q => ?_, fun _ => ⟨_, qK I (q_pathVertex hG I _ _ _), ?_⟩⟩
            · have := nx.1
              rw [e, i_le, i_nI (by omega), i_0] at q
              omega
            rintro r m ⟨e, I⟩
            have e : aPth S.1 S.2.1 0 v u r := TwoAns.of e hv hu hn
            have e : r = nI v := by
              rcases e with ⟨q, -⟩ | ⟨-, q⟩
              · exact absurd q (by decide)
              · exact path_at F (k := 0) (p := v) rfl (Tr.sy cv) rfl q
            refine ⟨fun q => absurd e q, fun _ => t_L_built_326 hG _ _ _ _ _ _ _ _ _ _ _ _ _ _ _ _ m ⟨_, qK I (q_edgeWeight hG I _ _), ?_⟩⟩
            rintro r m ⟨e, I⟩
            have e : aEw S.1 S.2.1 p y r := TwoAns.of e hp' hy hn
            have e : r = nI (S.2.1.2 p y) := by
              rcases e with ⟨-, q⟩ | ⟨q, -⟩
              · exact q
              · have := nx.1; omega
            rw [e, nI_add, nI_1]
            exact ih2 m y _ I py (by have := nx.2; omega)
        have on14 : ∀ m, At m S → XI l M_L_built G (fun r m => r = 1 ∧ At m S) m 179 [(0, .ref (gA G 0)), (1, .int (nI xx)), (2, .int (nI S.1)), (3, .int (nI u)), (4, .int (nI z)), (5, .int a5), (6, .int a6), (7, .long a7), (9, .int a9), (10, .int a10), (11, .int 1), (12, .int (nI v)), (13, .int (nI ((gd S.1 S.2.1.2) u v))), (14, .int 1)] [] := by
          intro m I
          have b10 : mxO ((gc S.1 S.2.1.2) u) ((gd S.1 S.2.1.2) u) v ≤ 1089 := mxO_le (fun y _ q => F.dlt q)
          refine t_L_built_179 hG _ _ _ _ _ _ _ _ _ _ _ _ _ m ⟨fun _ => ⟨fun y => ?_, fun y => ?_⟩, fun y => absurd y (by decide)⟩
          · rw [h10, i_nle (by omega) (by omega)] at y
            have e : a10 = nI (mxO ((gc S.1 S.2.1.2) u) ((gd S.1 S.2.1.2) u) (v + 1)) := by rw [h10, mxO_in cv, Nat.max_eq_left y]
            have := far m I
            rw [← e] at this
            exact this
          · rw [h10, i_nle (by omega) (by omega)] at y
            have e : nI ((gd S.1 S.2.1.2) u v) = nI (mxO ((gc S.1 S.2.1.2) u) ((gd S.1 S.2.1.2) u) (v + 1)) := by rw [mxO_in cv, Nat.max_eq_right (by omega)]
            have := far m I
            rw [← e] at this
            exact this
        refine t_L_built_114 hG _ _ _ _ _ _ _ _ _ _ _ _ m ⟨fun y => absurd y (n9_ne (by omega)), fun _ => ⟨fun y => absurd rfl y, fun _ => ⟨_, qK I (q_distance hG I _ _), ?_⟩⟩⟩
        rintro r m ⟨e, I⟩
        have e : aDis S.1 S.2.1 v u r := TwoAns.of e hv hu hn
        have e : nI ((gd S.1 S.2.1.2) u v) = r := by
          rcases e with ⟨-, q⟩ | ⟨q, -⟩
          · have q : r = nI ((gd S.1 S.2.1.2) v u) := q
            rw [q, Tr.ds cv]
          · exact absurd (Tr.sy cv) q
        refine ⟨fun y => absurd e y, fun _ => ⟨fun y => ⟨fun q => absurd q (by decide), fun _ => ⟨fun _ => ⟨fun q => absurd rfl q, fun _ => on14 m I⟩, fun q => ?_⟩⟩, fun y => ⟨fun q => absurd q (by decide), fun _ => ⟨fun q => ?_, fun _ => ⟨fun q => absurd rfl q, fun _ => on14 m I⟩⟩⟩⟩⟩
        · rw [i_le, i_nI (by omega), i_0] at y
          have := Tr.d00 cv (by omega)
          exact absurd (congrArg nI this) q
        · have q := nI_inj (by omega) (by omega) q
          refine absurd ?_ y
          rw [← q, Tr.d0 hu]
          exact (by decide : (0 : Int32) ≤ 0)
      · -- of another tree
        have ed : d = -9 := by
          rcases ed with ⟨q, -⟩ | ⟨-, q⟩
          · exact absurd q cv
          · exact q
        subst ed
        refine ⟨fun _ => ?_, fun y => absurd ((tree_iff g hu eta etb).mp y) cv⟩
        refine t_L_built_114 hG _ _ _ _ _ _ _ _ _ _ _ _ m ⟨fun _ => ⟨fun y => absurd rfl y, fun _ => ⟨_, qK I (q_distance hG I _ _), ?_⟩⟩, fun y => absurd rfl y⟩
        rintro r m ⟨e, I⟩
        have e : aDis S.1 S.2.1 v u r := TwoAns.of e hv hu hn
        have e : -9 = r := by
          rcases e with ⟨q, -⟩ | ⟨-, q⟩
          · exact absurd (Tr.sy q) cv
          · exact q.symm
        refine ⟨fun y => absurd e y, fun _ => ⟨fun _ => ⟨fun _ => ⟨fun y => absurd rfl y, fun _ => ?_⟩, fun y => absurd rfl y⟩, fun y => absurd (by decide) y⟩⟩
        refine t_L_built_179 hG _ _ _ _ _ _ _ _ _ _ _ _ _ m ⟨fun y => absurd rfl y, fun _ => ⟨fun y => absurd y (by decide), fun _ => ⟨_, qK I (q_meeting hG I _ _ _), ?_⟩⟩⟩
        rintro r m ⟨e, I⟩
        have e : r = -9 := by
          rcases e with ⟨q, -⟩ | ⟨i, j, k, ⟨i1, i2, i3, i4, i5, i6⟩, q⟩
          · exact absurd ⟨Vx.of hu hn, Vx.of hv hn, Vx.of hu hn⟩ q
          · have i4 := nI_inj (by omega) (by omega) i4
            have i5 := nI_inj (by omega) (by omega) i5
            subst i4; subst i5
            rcases q with ⟨-, q⟩ | ⟨q, -⟩
            · exact q
            · exact absurd q.1 cv
        refine ⟨fun y => absurd e y, fun _ => ⟨_, qK I (q_pathVertex hG I _ _ _), ?_⟩⟩
        rintro r m ⟨e, I⟩
        have e : aPth S.1 S.2.1 0 u v r := TwoAns.of e hu hv hn
        have e : r = -9 := by
          rcases e with ⟨q, -⟩ | ⟨-, ⟨-, q⟩ | ⟨q, -⟩⟩
          · exact absurd q (by decide)
          · exact q
          · exact absurd q cv
        obtain ⟨gn, rfl, gn1, gn2⟩ := h5
        obtain ⟨ls, rfl, ls1, ls2⟩ := h6
        refine ⟨fun y => absurd e y, fun _ => nxt m _ _ _ _ _ I ⟨gn, rfl, by omega, gn2.trans ⟨fun h y hy cy => ?_, fun h y hy cy => h y (by omega) cy⟩⟩ ⟨ls, rfl, ls1, fun y hy cy i hi ei => ?_⟩ (by rw [h7, smO_out cv]) (by rw [h9, smO_out cv]) (by rw [h10, mxO_out cv])⟩
        · rcases Nat.lt_or_ge y v with q | q
          · exact h y q cy
          · rw [show y = v by omega] at cy; exact absurd cy cv
        · rcases Nat.lt_or_ge y v with q | q
          · exact ls2 y q cy i hi ei
          · rw [show y = v by omega] at cy; exact absurd cy cv
  exact loop _ 0 0 0 0 0 I ⟨0, rfl, Nat.le_refl _, ⟨fun _ y hy => absurd hy (Nat.not_lt_zero y), fun _ => rfl⟩⟩ ⟨0, rfl, Nat.zero_le _, fun y hy => absurd hy (Nat.not_lt_zero y)⟩ rfl rfl rfl
end LB
