/-! actions that take one another back; a script's answer; an edge of another weight -/
section AH
variable {n : Nat} {w : Nat → Nat} {E : Nat → Nat → Nat}
theorem nI_64 {k : Nat} (h : k < 2147483648) : (nI k).toInt64 = lN k := Int64.toInt_inj.mp (by rw [i_64, i_nI h, lN_int (by omega)])
theorem cmd_grp {k s i how u v : Nat} (hu : u < 100) (hv : v < 100) (h : grp k s i = 10000 * how + 100 * u + v) : scrOk n E k s i ↔ cmdOk n (scrE E k s i) how u v := by
  unfold scrOk
  rw [h, show (10000 * how + 100 * u + v) / 10000 = how by omega, show (10000 * how + 100 * u + v) / 100 % 100 = u by omega, show (10000 * how + 100 * u + v) % 100 = v by omega]
theorem scr_E1 {k s how u v : Nat} (hu : u < 100) (hv : v < 100) (h : grp k s 0 = 10000 * how + 100 * u + v) : scrE E k s 1 = cmdE E how u v := by
  show cmdE E (grp k s 0 / 10000) (grp k s 0 / 100 % 100) (grp k s 0 % 100) = _
  rw [h, show (10000 * how + 100 * u + v) / 10000 = how by omega, show (10000 * how + 100 * u + v) / 100 % 100 = u by omega, show (10000 * how + 100 * u + v) % 100 = v by omega]
theorem cmd_2 {u v : Nat} : cmdOk n E 2 u v ↔ (u < n ∧ v < n ∧ 0 < E u v) := by
  unfold cmdOk
  rw [if_neg (by decide), if_pos rfl]
theorem cmd_3 {u v : Nat} : cmdOk n E 3 u v ↔ gc n E u v := by
  unfold cmdOk
  rw [if_neg (by decide), if_neg (by decide), if_pos rfl]
theorem cmd_4 {u v : Nat} : cmdOk n E 4 u v ↔ (gc n E u v ∧ AMin (gc n E u) (Ecc n (gc n E) (gd n E)) n v) := by
  unfold cmdOk
  rw [if_neg (by decide), if_neg (by decide), if_neg (by decide), if_pos rfl]
/-- the script of two commands: the edge is cut, and then the two are not joined -/
theorem scr_cut {u v : Nat} {a : Int32} {b : Int64} {r : Int32} (hn : n ≤ 12) (hu : u < n) (hv : v < n) (ha : a = nI 2) (hb : b = lN (2000030000 + 100000 * (100 * u + v) + 100 * u + v)) (h : aScr n (w, E) a b r) (h1 : 0 < E u v) (h2 : ¬ gc n (updE E u v 0) u v) : r = 1 := by
  have hs : 2000030000 + 100000 * (100 * u + v) + 100 * u + v < 100000 ^ 2 := by
    have : (100000 : Nat) ^ 2 = 10000000000 := by decide
    omega
  have hin : ScrIn a b 2 (2000030000 + 100000 * (100 * u + v) + 100 * u + v) := ⟨ha, by decide, by decide, hb, hs⟩
  have g0 : grp 2 (2000030000 + 100000 * (100 * u + v) + 100 * u + v) 0 = 10000 * 2 + 100 * u + v := by
    show (2000030000 + 100000 * (100 * u + v) + 100 * u + v) / 100000 ^ 1 % 100000 = _
    rw [Nat.pow_one, show 2000030000 + 100000 * (100 * u + v) + 100 * u + v = (30000 + 100 * u + v) + 100000 * (20000 + 100 * u + v) by omega, Nat.add_mul_div_left _ _ (by decide), Nat.div_eq_of_lt (by omega), Nat.zero_add, Nat.mod_eq_of_lt (by omega)]
  have g1 : grp 2 (2000030000 + 100000 * (100 * u + v) + 100 * u + v) 1 = 10000 * 3 + 100 * u + v := by
    show (2000030000 + 100000 * (100 * u + v) + 100 * u + v) / 100000 ^ 0 % 100000 = _
    rw [Nat.pow_zero, Nat.div_one]; omega
  have ok0 : scrOk n E 2 (2000030000 + 100000 * (100 * u + v) + 100 * u + v) 0 := (cmd_grp (by omega) (by omega) g0).mpr (cmd_2.mpr ⟨hu, hv, h1⟩)
  have ok1 : ¬ scrOk n E 2 (2000030000 + 100000 * (100 * u + v) + 100 * u + v) 1 := fun z => by
    have := (cmd_grp (by omega) (by omega) g1).mp z
    rw [scr_E1 (by omega) (by omega) g0] at this
    exact h2 (cmd_3.mp this)
  rcases h with ⟨q, -⟩ | ⟨k, s, q1, q2⟩
  · exact (q.no hin).elim
  · have q2 : ScrAns n E 2 (2000030000 + 100000 * (100 * u + v) + 100 * u + v) r := by
      have e1 := nI_inj (by have := q1.2.2.1; omega) (by decide) (q1.1.symm.trans ha)
      subst e1
      have hp := h_pow q1.2.2.1
      have e2 := congrArg Int64.toInt (q1.2.2.2.1.symm.trans hb)
      rw [lN_int (by have := q1.2.2.2.2; omega), lN_int (by omega)] at e2
      have e2 : s = 2000030000 + 100000 * (100 * u + v) + 100 * u + v := by omega
      rw [← e2]
      exact q2
    rcases q2 with ⟨i, i1, i2, i3, i4⟩ | ⟨i1, -⟩
    · rcases (by omega : i = 0 ∨ i = 1) with rfl | rfl
      · exact absurd ok0 i3
      · exact i2
    · exact absurd (i1 1 (by decide)) ok1
/-- the script of one command that succeeds -/
theorem scr_one {how u v : Nat} {a : Int32} {b : Int64} {r : Int32} (hh : how < 10) (hu : u < 100) (hv : v < 100) (ha : a = nI 1) (hb : b = lN (10000 * how + 100 * u + v)) (h : aScr n (w, E) a b r) (h1 : cmdOk n E how u v) : r = -9 := by
  have hs : 10000 * how + 100 * u + v < 100000 ^ 1 := by
    rw [Nat.pow_one]; omega
  have hin : ScrIn a b 1 (10000 * how + 100 * u + v) := ⟨ha, by decide, by decide, hb, hs⟩
  have g0 : grp 1 (10000 * how + 100 * u + v) 0 = 10000 * how + 100 * u + v := by
    show (10000 * how + 100 * u + v) / 100000 ^ 0 % 100000 = _
    rw [Nat.pow_zero, Nat.div_one]; omega
  have ok0 : scrOk n E 1 (10000 * how + 100 * u + v) 0 := (cmd_grp hu hv g0).mpr h1
  rcases h with ⟨q, -⟩ | ⟨k, s, q1, q2⟩
  · exact (q.no hin).elim
  · have q2 : ScrAns n E 1 (10000 * how + 100 * u + v) r := by
      have e1 := nI_inj (by have := q1.2.2.1; omega) (by decide) (q1.1.symm.trans ha)
      subst e1
      have hp := h_pow q1.2.2.1
      have e2 := congrArg Int64.toInt (q1.2.2.2.1.symm.trans hb)
      rw [lN_int (by have := q1.2.2.2.2; omega), lN_int (by omega)] at e2
      have e2 : s = 10000 * how + 100 * u + v := by omega
      rw [← e2]
      exact q2
    rcases q2 with ⟨i, i1, i2, i3, i4⟩ | ⟨-, i1⟩
    · rw [show i = 0 by omega] at i3
      exact absurd ok0 i3
    · exact i1
/-- an edge is cut: its ends are not joined -/
theorem cut_nc {u v : Nat} (g : Gd n E) (e : 0 < E u v) : ¬ gc n (updE E u v 0) u v := by
  have T := g.tD
  have F := Fst.cut g e
  intro z
  have := (F.uqc (g.cut e) u v).mpr z
  have hu := T.v1 (T.ed e)
  have hv := T.v2 (T.ed e)
  have q := this.2 (T.rf hu)
  rw [T.d0 hu, T.d0 hv, T.de e] at q
  have := q.mp e
  omega
/-- an edge has another weight: a distance is the same, or differs as the weights do -/
theorem rew_dist {x : Fw} {a b k u v : Nat} {r r' : Int32} (g : Gd n x.2) (e : 0 < x.2 a b) (hk : 0 < k) (hk2 : k ≤ 99) (h : aDis n x u v r) (h' : aDis n (x.1, updE x.2 a b k) u v r') : r' = r ∨ r' - r = nI k - nI (x.2 a b) := by
  have T := g.tD
  obtain ⟨D', F', r1, r2, r3⟩ := Fst.rew g e hk hk2
  have g' := g.rew e hk hk2
  have cc : ∀ p q, gc n x.2 p q ↔ gc n (updE x.2 a b k) p q := fun p q => F'.uqc g' p q
  have be := g.2.2.1 a b
  have num : ∀ A B t s : Nat, A ≤ 1089 → B ≤ 1089 → t ≤ 99 → s ≤ 99 → nI (A + t + B) - nI (A + s + B) = nI t - nI s := fun A B t s h1 h2 h3 h4 => by
    rw [i_eq, pk_sub_toInt (by omega) (by omega), pk_sub_toInt (by omega) (by omega)]
    omega
  rcases h with ⟨q, h⟩ | ⟨q, h⟩
  · have dd : gd n (updE x.2 a b k) u v = D' u v := (F'.uqd g' q).symm
    rcases h' with ⟨q', h'⟩ | ⟨q', -⟩
    · have h' : r' = nI (gd n (updE x.2 a b k) u v) := h'
      rw [dd] at h'
      by_cases ca : gc n x.2 u a
      · have cv : gc n x.2 v a := T.tr (T.sy q) ca
        by_cases s1 : gd n x.2 u a < gd n x.2 u b <;> by_cases s2 : gd n x.2 v a < gd n x.2 v b
        · exact Or.inl (by rw [h', h, r1 u v q (fun _ => ⟨fun _ => s2, fun _ => s1⟩)])
        · refine Or.inr ?_
          have ac := T.across e ca cv s1 s2
          rw [h', h, r2 u v ca cv s1 s2, ac]
          exact num _ _ _ _ (g.dlt ca) (g.dlt (T.tr (T.sy (T.ed e)) (T.sy cv))) hk2 be
        · refine Or.inr ?_
          have e' : 0 < x.2 b a := by rw [T.ws]; exact e
          have cub : gc n x.2 u b := T.tr ca (T.ed e)
          have cvb : gc n x.2 v b := T.tr cv (T.ed e)
          have t1 : gd n x.2 u b < gd n x.2 u a := by
            rcases T.a4 e ca with z | z <;> omega
          have ac := T.across e' cub cvb t1 (by omega)
          rw [h', h, r3 u v ca cv s1 s2, ac, T.ws b a]
          exact num _ _ _ _ (g.dlt cub) (g.dlt (T.sy cv)) hk2 be
        · exact Or.inl (by rw [h', h, r1 u v q (fun _ => ⟨fun z => absurd z s1, fun z => absurd z s2⟩)])
      · exact Or.inl (by rw [h', h, r1 u v q (fun z => absurd z ca)])
    · exact absurd ((cc u v).mp q) q'
  · rcases h' with ⟨q', -⟩ | ⟨-, h'⟩
    · exact absurd ((cc u v).mpr q') q
    · exact Or.inl (h'.trans h.symm)
end AH
def sx (S : Sta) (h : List Fw) : Sta := (S.1, S.2.1, h, (savedS S 1).2.2.2)
section AI
variable {l : Launch} {G : Gx} {mem m m' : Mem} {S : Sta}
set_option maxHeartbeats 4000000 in
theorem l_ahead (hG : Mn G) (I : At mem S) {xx : Nat} (hx : xx < 2147483648) : CtI l M_L_ahead G [.ref (gA G 0), .int (nI xx)] mem (fun r m => r = 1 ∧ At m (sx S [])) := by
  have hn := I.n12
  have n1 := I.n1
  have g := I.good
  have T := g.tD
  obtain ⟨u, hu, eu⟩ : ∃ u, u < S.1 ∧ nI xx - nI xx / nI S.1 * nI S.1 = nI u := ⟨xx % S.1, Nat.mod_lt _ (by omega), rem_nI hx (by omega) (by omega)⟩
  obtain ⟨v, hv, ev⟩ : ∃ v, v < S.1 ∧ (nI xx / 12) - (nI xx / 12) / nI S.1 * nI S.1 = nI v := ⟨xx / 12 % S.1, Nat.mod_lt _ (by omega), by rw [show nI xx / 12 = nI (xx / 12) from pk_div (d := 12) hx (by decide) (by decide)]; exact rem_nI (by omega) (by omega) (by omega)⟩
  obtain ⟨k, k1, k2, ek⟩ : ∃ k, 1 ≤ k ∧ k ≤ 99 ∧ 1 + ((nI xx / 144) - (nI xx / 144) / 99 * 99) = nI k := ⟨1 + xx / 144 % 99, by omega, by omega, by rw [show nI xx / 144 = nI (xx / 144) from pk_div (d := 144) hx (by decide) (by decide)]; exact (congrArg (fun z : Int32 => 1 + z) (rem_nI (a := xx / 144) (d := 99) (by omega) (by decide) (by decide))).trans (nI_add 1 _)⟩
  have cb : cntE S.2.1.2 S.1 S.1 ≤ 144 := Nat.le_trans (cntE_le S.2.1.2 S.1 S.1) (Nat.mul_le_mul hn hn)
  have n0 : ¬ nI S.1 = 0 := fun z => by
    have := nI_inj (b := 0) (by omega) (by decide) z
    omega
  refine CtI_of (by decide) (Nat.le_of_ble_eq_true rfl) rfl (t_L_ahead_0 hG _ mem ?_)
  refine ⟨_, l_now hG I, ?_⟩
  rintro st m1 ⟨est, I⟩
  refine ⟨_, l_vertices hG I, ?_⟩
  rintro r m2 ⟨rfl, kp⟩
  have I := I.keep kp
  refine ⟨_, o_save (s := 1) hG I (by decide), ?_⟩
  rintro ed m3 ⟨eed, I⟩
  have ed0 : ¬ ed < 0 := by rw [eed, i_lt, i_nI (by omega), i_0]; omega
  refine ⟨n0, n0, fun z => absurd z ed0, fun _ => ?_⟩
  rw [eu, ev, ek]
  have I : At m3 (sx S S.2.2.1) := I
  -- the end, from the loops on
  have fin : ∀ (m : Mem) (h : List Fw), At m (sx S h) → XI l M_L_ahead G (fun r m => r = 1 ∧ At m (sx S [])) m 457 [(0, .ref (gA G 0)), (2, .long st), (5, .int ed), (9, .int 1)] [] := by
    intro m h I
    refine t_L_ahead_457 hG _ _ _ m ⟨fun z => absurd z (by decide), fun _ => ⟨_, o_restore (s := 1) (y := S.2.1) hG I (by decide) (show (if (1 : Nat) = 1 then some S.2.1 else S.2.2.2.1 1) = some S.2.1 from if_pos rfl), ?_⟩⟩
    rintro r m ⟨e, I⟩
    have I : At m (sx S []) := I
    refine ⟨fun z => absurd (e.trans eed.symm) z, fun _ => ⟨_, l_now hG I, ?_⟩⟩
    rintro r m ⟨e, I⟩
    refine ⟨fun z => absurd ((lg_eq _ _).mpr (e.trans est.symm)) z, fun _ => ⟨_, o_undo0 hG I rfl, ?_⟩⟩
    rintro r m ⟨e, I⟩
    exact ⟨fun z => absurd e z, fun _ => ⟨rfl, I⟩⟩
  have vw : ∀ (m : Mem) (h : List Fw), At m (sx S h) → XI l M_L_ahead G (fun r m => r = 1 ∧ At m (sx S [])) m 397 [(0, .ref (gA G 0)), (2, .long st), (5, .int ed), (6, .int (nI u)), (8, .int (nI k)), (9, .int 1)] [] := by
    intro m h I
    refine t_L_ahead_397 hG _ _ _ _ _ m ⟨_, qK I (q_vertexWeight hG I _), ?_⟩
    rintro wt m ⟨ewt, I⟩
    have ewt : wt = nI (S.2.1.1 u) := OneAns.of ewt hu hn
    refine ⟨fun z => absurd z (by decide), fun _ => ⟨_, o_setVertexWeight hG I hu k2, ?_⟩⟩
    rintro r m ⟨e, I⟩
    refine ⟨fun z => absurd (e.trans ewt.symm) z, fun _ => ⟨_, qK I (q_vertexWeight hG I _), ?_⟩⟩
    rintro r m ⟨e, I⟩
    have e : r = nI (updW S.2.1.1 u k u) := OneAns.of e hu hn
    have e : r = nI k := e.trans (congrArg nI (if_pos rfl))
    refine ⟨fun z => absurd e z, fun _ => ⟨_, o_undo (y := S.2.1) (t := h.take 13) hG I rfl, ?_⟩⟩
    rintro r m ⟨e, I⟩
    have I : At m (sx S (h.take 13)) := I
    refine ⟨fun z => absurd z e, fun _ => ⟨_, l_now hG I, ?_⟩⟩
    rintro r m ⟨e, I⟩
    exact ⟨fun z => absurd ((lg_eq _ _).mpr (e.trans est.symm)) z, fun _ => fin m _ I⟩
  have outer : ∀ (m : Mem) (h : List Fw), At m (sx S h) → XI l M_L_ahead G (fun r m => r = 1 ∧ At m (sx S [])) m 227 [(0, .ref (gA G 0)), (2, .long st), (4, .int (nI S.1)), (5, .int ed), (6, .int (nI u)), (7, .int (nI v)), (8, .int (nI k)), (9, .int 1), (10, .int 0)] [] := by
    refine up_loop (P := fun a => ∀ (m : Mem) (h : List Fw), At m (sx S h) → XI l M_L_ahead G (fun r m => r = 1 ∧ At m (sx S [])) m 227 [(0, .ref (gA G 0)), (2, .long st), (4, .int (nI S.1)), (5, .int ed), (6, .int (nI u)), (7, .int (nI v)), (8, .int (nI k)), (9, .int 1), (10, .int (nI a))] []) (n := S.1) (Nat.zero_le _) ?_ ?_
    · intro m h I
      exact t_L_ahead_227 hG _ _ _ _ _ _ _ _ m ⟨fun _ => vw m h I, fun z => absurd ((i_nle (by omega) (by omega)).mpr (Nat.le_refl _)) z⟩
    · intro a _ ha ih m h I
      refine t_L_ahead_227 hG _ _ _ _ _ _ _ _ m ⟨fun z => absurd ((i_nle (by omega) (by omega)).mp z) (by omega), fun _ => ⟨fun z => absurd z (by decide), fun _ => ?_⟩⟩
      refine up_loop (P := fun b => ∀ (m : Mem) (h : List Fw), At m (sx S h) → XI l M_L_ahead G (fun r m => r = 1 ∧ At m (sx S [])) m 242 [(0, .ref (gA G 0)), (2, .long st), (4, .int (nI S.1)), (5, .int ed), (6, .int (nI u)), (7, .int (nI v)), (8, .int (nI k)), (9, .int 1), (10, .int (nI a)), (11, .int (nI b))] []) (n := a) (Nat.zero_le _) ?_ ?_ m h I
      · intro m h I
        refine t_L_ahead_242 hG _ _ _ _ _ _ _ _ _ m ⟨fun _ => t_L_ahead_391 hG _ _ _ _ _ _ _ _ m ?_, fun z => absurd ((i_nle (by omega) (by omega)).mpr (Nat.le_refl _)) z⟩
        rw [nI_1]
        exact ih m h I
      · intro b _ hb ih2 m h I
        have hbn : b < S.1 := by omega
        have next : ∀ (m : Mem) (h : List Fw), At m (sx S h) → XI l M_L_ahead G (fun r m => r = 1 ∧ At m (sx S [])) m 385 [(0, .ref (gA G 0)), (2, .long st), (4, .int (nI S.1)), (5, .int ed), (6, .int (nI u)), (7, .int (nI v)), (8, .int (nI k)), (9, .int 1), (10, .int (nI a)), (11, .int (nI b))] [] := by
          intro m h I
          refine t_L_ahead_385 hG _ _ _ _ _ _ _ _ _ m ?_
          rw [nI_1]
          exact ih2 m h I
        refine t_L_ahead_242 hG _ _ _ _ _ _ _ _ _ m ⟨fun z => absurd ((i_nle (by omega) (by omega)).mp z) (by omega), fun _ => ⟨fun z => absurd z (by decide), fun _ => ⟨_, qK I (q_edgeWeight hG I _ _), ?_⟩⟩⟩
        rintro was m ⟨ewas, I⟩
        have ewas : aEw S.1 S.2.1 a b was := TwoAns.of ewas ha hbn hn
        refine ⟨fun _ => next m h I, fun z => ?_⟩
        have e0 : 0 < S.2.1.2 a b ∧ was = nI (S.2.1.2 a b) := by
          rcases ewas with q | ⟨-, q⟩
          · exact q
          · rw [q] at z; exact absurd (by decide) z
        refine ⟨_, qK I (q_distance hG I _ _), ?_⟩
        rintro bef m ⟨ebef, I⟩
        have ebef : aDis S.1 S.2.1 u v bef := TwoAns.of ebef hu hv hn
        refine ⟨_, o_setEdgeWeight hG I ha hbn k1 k2 e0.1, ?_⟩
        rintro r m ⟨e, I⟩
        have g' := g.rew e0.1 (show 0 < k by omega) k2
        refine ⟨fun z => absurd (e.trans e0.2.symm) z, fun _ => ⟨_, qK I (q_edgeWeight hG I _ _), ?_⟩⟩
        rintro r m ⟨e, I⟩
        have e : aEw S.1 (S.2.1.1, updE S.2.1.2 a b k) b a r := TwoAns.of e hbn ha hn
        have e : r = nI k := by
          rcases e with ⟨-, q⟩ | ⟨q, -⟩
          · exact q.trans (congrArg nI (updE_ta _ _ _ _))
          · have : updE S.2.1.2 a b k b a = 0 := q
            rw [updE_ta] at this; omega
        refine ⟨fun z => absurd e z, fun _ => ⟨_, qK I (q_distance hG I _ _), ?_⟩⟩
        rintro r m ⟨e, I⟩
        have e : aDis S.1 (S.2.1.1, updE S.2.1.2 a b k) a b r := TwoAns.of e ha hbn hn
        have eab : 0 < updE S.2.1.2 a b k a b := by rw [updE_at]; omega
        have e : r = nI k := by
          rcases e with ⟨-, q⟩ | ⟨q, -⟩
          · have q : r = nI (gd S.1 (updE S.2.1.2 a b k) a b) := q
            rw [g'.tD.de eab, updE_at] at q
            exact q
          · exact absurd (g'.tD.ed eab) q
        refine ⟨fun z => absurd e z, fun _ => t_L_ahead_327 hG _ _ _ _ _ _ _ _ _ _ _ m ⟨_, qK I (q_distance hG I _ _), ?_⟩⟩
        rintro thn m ⟨ethn, I⟩
        have ethn : aDis S.1 (S.2.1.1, updE S.2.1.2 a b k) u v thn := TwoAns.of ethn hu hv hn
        have rd := rew_dist g e0.1 (show 0 < k by omega) k2 ebef ethn
        have un : ∀ m, At m (acted (sx S h) (S.2.1.1, updE S.2.1.2 a b k)) → XI l M_L_ahead G (fun r m => r = 1 ∧ At m (sx S [])) m 362 [(0, .ref (gA G 0)), (2, .long st), (4, .int (nI S.1)), (5, .int ed), (6, .int (nI u)), (7, .int (nI v)), (8, .int (nI k)), (10, .int (nI a)), (11, .int (nI b))] [] := by
          intro m I
          refine t_L_ahead_362 hG _ _ _ _ _ _ _ _ m ⟨_, o_undo (y := S.2.1) (t := h.take 13) hG I rfl, ?_⟩
          rintro r m ⟨e, I⟩
          have I : At m (sx S (h.take 13)) := I
          refine ⟨fun z => absurd z e, fun _ => ⟨_, l_now hG I, ?_⟩⟩
          rintro r m ⟨e, I⟩
          exact ⟨fun z => absurd ((lg_eq _ _).mpr (e.trans est.symm)) z, fun _ => next m _ I⟩
        refine ⟨fun z => absurd z (by decide), fun _ => ⟨fun _ => un m I, fun z => ⟨fun z2 => ?_, fun _ => un m I⟩⟩⟩
        rcases rd with q | q
        · exact absurd q z
        · exact absurd (by rw [q, e0.2]) z2
  refine t_L_ahead_57 hG _ _ _ _ _ _ _ m3 ⟨_, qK I (q_treeOf hG I _), ?_⟩
  rintro tu m ⟨etu, I⟩
  have etu : aTree S.1 S.2.1 u tu := OneAns.of etu hu hn
  refine ⟨_, qK I (q_treeOf hG I _), ?_⟩
  rintro tv m ⟨etv, I⟩
  have etv : aTree S.1 S.2.1 v tv := OneAns.of etv hv hn
  refine ⟨fun _ => t_L_ahead_224 hG _ _ _ _ _ _ _ m (outer m _ I), fun z => ⟨fun z => absurd z (by decide), fun _ => ?_⟩⟩
  have nc : ¬ gc S.1 S.2.1.2 u v := fun q => z ((tree_iff g hu etu etv).mpr q)
  have ne : u ≠ v := fun q => nc (by rw [q]; exact T.rf hv)
  have z1 : S.2.1.2 u v = 0 := by
    rcases Nat.eq_zero_or_pos (S.2.1.2 u v) with q | q
    · exact q
    · exact absurd (T.ed q) nc
  have z2 : S.2.1.2 v u = 0 := by rw [T.ws]; exact z1
  have g' := g.link hu hv nc (show 0 < k by omega) k2
  have euv : 0 < updE S.2.1.2 u v k u v := by rw [updE_at]; omega
  refine ⟨_, o_link hG I hu hv k1 k2 nc, ?_⟩
  rintro r m ⟨e, I⟩
  have e : r = ed + 1 := by
    rw [eed, nI_1]
    exact e.trans (congrArg nI (cnt_link hu hv ne z1 z2 (by omega)))
  refine ⟨fun z => absurd e z, fun _ => ⟨_, qK I (q_distance hG I _ _), ?_⟩⟩
  rintro r m ⟨e, I⟩
  have e : aDis S.1 (S.2.1.1, updE S.2.1.2 u v k) u v r := TwoAns.of e hu hv hn
  have e : r = nI k := by
    rcases e with ⟨-, q⟩ | ⟨q, -⟩
    · have q : r = nI (gd S.1 (updE S.2.1.2 u v k) u v) := q
      rw [g'.tD.de euv, updE_at] at q
      exact q
    · exact absurd (g'.tD.ed euv) q
  refine ⟨fun z => absurd e z, fun _ => ⟨_, qK I (q_treeOf hG I _), ?_⟩⟩
  rintro tu' m ⟨etu', I⟩
  have etu' : aTree S.1 (S.2.1.1, updE S.2.1.2 u v k) u tu' := OneAns.of etu' hu hn
  refine ⟨_, qK I (q_treeOf hG I _), ?_⟩
  rintro tv' m ⟨etv', I⟩
  have etv' : aTree S.1 (S.2.1.1, updE S.2.1.2 u v k) v tv' := OneAns.of etv' hv hn
  refine ⟨fun z => absurd ((tree_iff g' hu etu' etv').mpr (g'.tD.ed euv)) z, fun _ => ?_⟩
  refine t_L_ahead_122 hG _ _ _ _ _ _ m ⟨_, qK I (q_runScript hG I _ _), ?_⟩
  rintro r m ⟨e, I⟩
  have e100 : 100 * nI u = nI (100 * u) := pk_mul 100 u
  have e : r = 1 := by
    refine scr_cut (w := S.2.1.1) (E := updE S.2.1.2 u v k) hn hu hv rfl ?_ e euv (cut_nc g' euv)
    rw [e100, nI_add, nI_64 (by omega), nI_64 (by omega), nI_64 (by omega), show (100000 : Int64) = lN 100000 from rfl, lN_mul, show (2000030000 : Int64) = lN 2000030000 from rfl, lN_add, lN_add, lN_add]
  refine ⟨fun z => absurd e z, fun _ => ⟨_, o_cut hG I hv hu (show 0 < updE S.2.1.2 u v k v u by rw [updE_ta]; omega), ?_⟩⟩
  rintro r m ⟨e, I⟩
  have e : r = nI k := e.trans (congrArg nI (updE_ta _ _ _ _))
  refine ⟨fun z => absurd e z, fun _ => ⟨_, l_now hG I, ?_⟩⟩
  rintro r m ⟨e, I⟩
  have e : r = st := by
    rw [est]
    refine e.trans ?_
    show nwO S.1 (S.2.1.1, updE (updE S.2.1.2 u v k) v u 0) 12 = nwO S.1 S.2.1 12
    rw [updE_back z1 z2]
  refine ⟨fun z => absurd ((lg_eq _ _).mpr e) z, fun _ => ⟨_, o_undo (y := (S.2.1.1, updE S.2.1.2 u v k)) (t := (S.2.1 :: S.2.2.1.take 13).take 13) hG I rfl, ?_⟩⟩
  rintro r m ⟨e, I⟩
  refine ⟨fun z => absurd z e, fun _ => ⟨_, qK I (q_edgeWeight hG I _ _), ?_⟩⟩
  rintro r m ⟨e, I⟩
  have e : aEw S.1 (S.2.1.1, updE S.2.1.2 u v k) v u r := TwoAns.of e hv hu hn
  have e : r = nI k := by
    rcases e with ⟨-, q⟩ | ⟨q, -⟩
    · exact q.trans (congrArg nI (updE_ta _ _ _ _))
    · have : updE S.2.1.2 u v k v u = 0 := q
      rw [updE_ta] at this; omega
  refine ⟨fun z => absurd e z, fun _ => ⟨_, o_undo (y := S.2.1) (t := (S.2.2.1.take 13).take 12) hG I rfl, ?_⟩⟩
  rintro r m ⟨e, I⟩
  have I : At m (sx S ((S.2.2.1.take 13).take 12)) := I
  refine ⟨fun z => absurd z e, fun _ => t_L_ahead_208 hG _ _ _ _ _ _ m ⟨_, l_now hG I, ?_⟩⟩
  rintro r m ⟨e, I⟩
  exact ⟨fun z => absurd ((lg_eq _ _).mpr (e.trans est.symm)) z, fun _ => t_L_ahead_224 hG _ _ _ _ _ _ _ m (outer m _ I)⟩
end AI
