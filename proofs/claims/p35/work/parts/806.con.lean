/-! what the law asks of contraction, centres, diameters, balanced cuts, paths -/
def Rr (k : Nat) (A B : Cs) : Prop := ∀ x, (B.1 x = true → A.1 x = true) ∧ (¬ (A.1 x = true ∧ ¬ B.1 x = true) → B.2.2 x = A.2.2 x) ∧ (A.1 x = true → ¬ B.1 x = true → B.2.2 x = nI k)
section RR
variable {k n : Nat} {A B C S : Cs}
theorem Rr_rf : Rr k A A := fun x => ⟨id, fun _ => rfl, fun h h2 => absurd h h2⟩
theorem Rr_same (h : Rr k A B) (e1 : C.1 = B.1) (e2 : C.2.2 = B.2.2) : Rr k A C := fun x => by
  rw [e1, e2]; exact h x
theorem Rr_rmv (h : Rr k A B) {v : Nat} (hv : B.1 v = true) : Rr k A (rmv k v B) := by
  intro x
  obtain ⟨h1, h2, h3⟩ := h x
  show (pm B.1 v x = true → A.1 x = true) ∧ (¬ (A.1 x = true ∧ ¬ pm B.1 v x = true) → upd B.2.2 v (nI k) x = A.2.2 x) ∧ (A.1 x = true → ¬ pm B.1 v x = true → upd B.2.2 v (nI k) x = nI k)
  by_cases e : x = v
  · subst e
    have np : ¬ pm B.1 x x = true := fun z => (pm_t.mp z).2 rfl
    exact ⟨fun z => absurd z np, fun z => absurd ⟨h1 hv, np⟩ z, fun _ _ => upd_s⟩
  · have e1 : pm B.1 v x = true ↔ B.1 x = true := ⟨fun z => (pm_t.mp z).1, fun z => pm_t.mpr ⟨z, e⟩⟩
    rw [e1, upd_n e]
    exact ⟨h1, h2, h3⟩
theorem Rr_rkj : ∀ j, Rr k S (rkj k S j)
  | 0 => Rr_rf
  | j + 1 => by
    show Rr k S (if mk S j = true then rmv k j (rkj k S j) else rkj k S j)
    by_cases c : mk S j = true
    · rw [if_pos c]
      exact Rr_rmv (Rr_rkj j) ((rkj_1 j j).mpr ⟨mk_P c, fun z => absurd z.1 (Nat.lt_irrefl _)⟩)
    · rw [if_neg c]; exact Rr_rkj j
theorem Rr_bp (h : Rr k A B) (v : Nat) : Rr k A (bp k v B) := by
  unfold bp
  split
  · rename_i q
    exact Rr_same (Rr_rmv h q.1) rfl rfl
  · exact h
theorem Rr_cpj (h : Rr k A B) : ∀ j, Rr k A (cpj k B j)
  | 0 => Rr_same h rfl rfl
  | j + 1 => Rr_bp (Rr_cpj h j) j
theorem Rr_rnd : Rr k S (rnd k S) := Rr_cpj (Rr_rkj 12) 12
theorem st_1 (hS : ∀ x, S.2.2 x = -9) : ∀ j x, ((StC S j).1 x = true → S.1 x = true) ∧ (S.1 x = true → ((StC S j).1 x = true ∧ (StC S j).2.2 x = -9) ∨ (¬ (StC S j).1 x = true ∧ ∃ i, 1 ≤ i ∧ i ≤ j ∧ (StC S j).2.2 x = nI i))
  | 0, x => ⟨id, fun h => Or.inl ⟨h, hS x⟩⟩
  | j + 1, x => by
    obtain ⟨a1, a2⟩ := st_1 hS j x
    obtain ⟨b1, b2, b3⟩ := (Rr_rnd (k := j + 1) (S := StC S j)) x
    refine ⟨fun h => a1 (b1 h), fun h => ?_⟩
    show ((rnd (j + 1) (StC S j)).1 x = true ∧ (rnd (j + 1) (StC S j)).2.2 x = -9) ∨ (¬ (rnd (j + 1) (StC S j)).1 x = true ∧ ∃ i, 1 ≤ i ∧ i ≤ j + 1 ∧ (rnd (j + 1) (StC S j)).2.2 x = nI i)
    by_cases c : (rnd (j + 1) (StC S j)).1 x = true
    · have q := b1 c
      rcases a2 h with ⟨-, r⟩ | ⟨r, -⟩
      · exact Or.inl ⟨c, (b2 (fun z => z.2 c)).trans r⟩
      · exact absurd q r
    · rcases a2 h with ⟨q, -⟩ | ⟨q, i, i1, i2, i3⟩
      · exact Or.inr ⟨c, j + 1, by omega, Nat.le_refl _, b3 q c⟩
      · exact Or.inr ⟨c, i, i1, by omega, (b2 (fun z => q z.1)).trans i3⟩
theorem st_2 (hS : ∀ x, S.2.2 x = -9) (hT : Tc n S) (h1 : 1 ≤ cn S.1 12) {T : Nat} (h : Fin1 S (T + 1)) : ∃ x, S.1 x = true ∧ (StC S (T + 1)).2.2 x = nI (T + 1) := by
  obtain ⟨T', -, f, a⟩ := hT.fin h1
  have e := h.uq f
  subst e
  have t := (a T (by omega)).1
  have lt := (t.rnd1 (k := T + 1) (h.1 T (by omega))).2.2
  apply Classical.byContradiction
  intro no
  have : cn (StC S T).1 12 ≤ cn (rnd (T + 1) (StC S T)).1 12 := by
    refine cn_le (fun x hx q => ?_)
    apply Classical.byContradiction
    intro c
    exact no ⟨x, (st_1 hS T x).1 q, ((Rr_rnd (k := T + 1) (S := StC S T)) x).2.2 q c⟩
  omega
end RR
section CN
variable {n u v : Nat} {w : Nat → Nat} {E : Nat → Nat → Nat} {c : Nat → Nat → Prop} {D H : Nat → Nat → Nat} {x : Fw} {r : Int32}
/-- the contraction of the tree of u: T rounds, z survives -/
theorem con (F : Fst n w E c D H) (hu : u < n) : ∃ T z, T ≤ 11 ∧ Fin1 (S0 E c u) T ∧ c u z ∧ (StC (S0 E c u) T).1 z = true ∧ (∀ y, (StC (S0 E c u) T).1 y = true → y = z) ∧ (StC (S0 E c u) T).2.2 z = -9 ∧ (∀ y, c u y → y ≠ z → ∃ i, 1 ≤ i ∧ i ≤ T ∧ (StC (S0 E c u) T).2.2 y = nI i) ∧ (T ≠ 0 → ∃ y, c u y ∧ (StC (S0 E c u) T).2.2 y = nI T) := by
  have hn := F.le
  obtain ⟨t0, t1⟩ := Tc_S0 F hu
  obtain ⟨T, hT, fT, aT⟩ := t0.fin t1
  have hS : ∀ y, (S0 E c u).2.2 y = -9 := fun _ => rfl
  obtain ⟨z, z1, z2⟩ := cn_ex (aT T (Nat.le_refl _)).2
  have un : ∀ y, (StC (S0 E c u) T).1 y = true → y = z := by
    intro y hy
    apply Classical.byContradiction
    intro ne
    have cy : c u y := S0_P.mp ((st_1 hS T y).1 hy)
    have y12 : y < 12 := by have := F.tD.v2 cy; omega
    have := cn_2 y12 z1 hy z2 ne
    have := fT.2
    omega
  have cz : c u z := S0_P.mp ((st_1 hS T z).1 z2)
  refine ⟨T, z, hT, fT, cz, z2, un, ?_, fun y cy ne => ?_, fun h => ?_⟩
  · rcases (st_1 hS T z).2 (S0_P.mpr cz) with ⟨-, h⟩ | ⟨h, -⟩
    · exact h
    · exact absurd z2 h
  · rcases (st_1 hS T y).2 (S0_P.mpr cy) with ⟨h, -⟩ | ⟨-, h⟩
    · exact absurd (un y h) ne
    · exact h
  · obtain ⟨T', rfl⟩ : ∃ T', T = T' + 1 := ⟨T - 1, by omega⟩
    obtain ⟨y, y1, y2⟩ := st_2 hS t0 t1 fT
    exact ⟨y, S0_P.mp y1, y2⟩
theorem c_same (F : Fst n w E c D H) (q : c u v) : c v = c u := by
  funext y
  exact propext ⟨fun z => F.tD.tr q z, fun z => F.tD.tr (F.tD.sy q) z⟩
theorem S0_same (h : c v = c u) : S0 E c v = S0 E c u := by unfold S0; rw [h]
theorem aDia_same (h : gc n x.2 v = gc n x.2 u) (q : aDia n x v r) : aDia n x u r := by unfold aDia at q ⊢; rw [← h]; exact q
theorem aCen_same (h : gc n x.2 v = gc n x.2 u) (q : aCen n x v r) : aCen n x u r := by unfold aCen at q ⊢; rw [← h]; exact q
theorem aMed_same (h : gc n x.2 v = gc n x.2 u) (q : aMed n x v r) : aMed n x u r := by unfold aMed at q ⊢; rw [← h]; exact q
theorem aRnd_same (h : gc n x.2 v = gc n x.2 u) (q : aRnd n x v r) : aRnd n x u r := by unfold aRnd at q ⊢; rw [← S0_same h]; exact q
theorem aSur_same (h : gc n x.2 v = gc n x.2 u) (q : aSur n x v r) : aSur n x u r := by unfold aSur at q ⊢; rw [← S0_same h]; exact q
/-- a tree of one vertex has no edge; another one has -/
theorem bal_no (F : Fst n w E c D H) (h : ∀ y, c u y → y = u) (q : BalAns n w E c D u r) : r = -9 := by
  rcases q with ⟨-, q⟩ | ⟨k, -, q⟩
  · exact q
  · obtain ⟨-, ⟨h1, h2, h3⟩, -⟩ := q
    have e1 := h _ (F.tD.sy h3)
    have e2 := h _ (F.tD.tr (F.tD.sy h3) (F.tD.ed h2))
    omega
theorem bal_yes (F : Fst n w E c D H) (cv : c u v) (h : v ≠ u) (q : BalAns n w E c D u r) : ¬ r < 0 := by
  rcases q with ⟨q, -⟩ | ⟨k, rfl, q⟩
  · obtain ⟨z, z1, -⟩ := F.tD.a5 cv (Ne.symm h)
    have T := F.tD
    have hu := T.v1 cv
    have hz := T.v2 (T.ed z1)
    have hn := F.le
    have ne : u ≠ z := fun e => by rw [e, T.wi] at z1; omega
    rcases Nat.lt_or_gt_of_ne ne with l | l
    · exact absurd (show BP E c u (100 * u + z) by
        unfold BP
        rw [show (100 * u + z) / 100 = u by omega, show (100 * u + z) % 100 = z by omega]
        exact ⟨l, z1, T.rf hu⟩) (q _ (by omega))
    · exact absurd (show BP E c u (100 * z + u) by
        unfold BP
        rw [show (100 * z + u) / 100 = z by omega, show (100 * z + u) % 100 = u by omega]
        exact ⟨l, by rw [T.ws]; exact z1, T.sy (T.ed z1)⟩) (q _ (by omega))
  · have := q.1
    rw [i_lt, i_nI (by omega), i_0]
    omega
/-- the ends of a diameter -/
theorem ends (F : Fst n w E c D H) {a b : Nat} (ha : AMax (c u) (Ecc n c D) n a) (hb : AMax (c a) (D a) n b) : a ≤ b ∧ c u b ∧ D a b = mxO (c u) (Ecc n c D) n := by
  have T := F.tD
  have cb : c u b := T.tr ha.2.1 hb.2.1
  have e1 : Ecc n c D a = D a b := hb.mx
  refine ⟨?_, cb, by rw [ha.mx, e1]⟩
  apply Classical.byContradiction
  intro q
  have l := ha.2.2.2 b (by omega) cb
  have g : D b a ≤ Ecc n c D b := mxO_ub (T.v1 hb.2.1) (T.sy hb.2.1)
  rw [T.ds (T.sy hb.2.1)] at g
  omega
theorem wide (F : Fst n w E c D H) {q : Nat} (hq : c u q) : mxO (c u) (Ecc n c D) n ≤ 2 * Ecc n c D q := by
  have T := F.tD
  refine mxO_le (fun y hy cy => ?_)
  refine mxO_le (fun z hz cz => ?_)
  have cyq : c y q := T.tr (T.sy cy) hq
  have cqz : c q z := T.tr (T.sy cyq) cz
  have t := T.tri' cyq cqz
  have g1 : D q y ≤ Ecc n c D q := mxO_ub hy (T.sy cyq)
  have g2 : D q z ≤ Ecc n c D q := mxO_ub hz cqz
  rw [T.ds (T.sy cyq)] at g1
  omega
/-- meeting vertices -/
theorem Meet.sw (F : Fst n w E c D H) {t y : Nat} (cv : c u v) (ct : c u t) : Meet c D u v t y ↔ Meet c D t v u y := by
  have T := F.tD
  unfold Meet
  refine ⟨fun ⟨h1, h2, h3, h4⟩ => ?_, fun ⟨h1, h2, h3, h4⟩ => ?_⟩
  · have cty : c t y := T.tr (T.sy ct) h1
    have cvy : c v y := T.tr (T.sy cv) h1
    have e1 := T.ds ct
    have e2 := T.ds h1
    have e3 := T.ds cty
    have e4 := T.ds cvy
    have e5 := T.ds cv
    have e6 := T.ds (T.tr (T.sy cv) ct)
    exact ⟨cty, by omega, by omega, by omega⟩
  · have cuy : c u y := T.tr ct h1
    have cvy : c v y := T.tr (T.sy cv) cuy
    have e1 := T.ds ct
    have e2 := T.ds cuy
    have e3 := T.ds h1
    have e4 := T.ds cvy
    have e5 := T.ds cv
    have e6 := T.ds (T.tr (T.sy cv) ct)
    exact ⟨cuy, by omega, by omega, by omega⟩
/-- the vertices of a path -/
theorem path_at (F : Fst n w E c D H) {k p : Nat} {r : Int32} {i : Int} (hi : i = (k : Int)) (q : c u v) (hp : PA E D u v k p) (h : PathAns E c D H u v i r) : r = nI p := by
  have o := PA.on F q hp
  rcases h with ⟨h, -⟩ | ⟨-, ⟨h, -⟩ | ⟨k', y, h1, h2, h3, h4⟩⟩
  · exact absurd q h
  · omega
  · have e : k' = k := by omega
    subst e
    rw [h3, PA.uq F q h4 hp]
theorem path_next (F : Fst n w E c D H) {k p : Nat} {r : Int32} {i : Int} (hi : i = ((k + 1 : Nat) : Int)) (q : c u v) (hp : PA E D u v k p) (ne : p ≠ v) (h : PathAns E c D H u v i r) : ∃ y, r = nI y ∧ y < n ∧ PA E D u v (k + 1) y ∧ Nxt E D p v y := by
  have o := PA.on F q hp
  have hpos : 0 < H p v := F.tH.pos o.1 ne
  rcases h with ⟨h, -⟩ | ⟨-, ⟨h, -⟩ | ⟨k', y, h1, h2, h3, h4⟩⟩
  · exact absurd q h
  · omega
  · have e : k' = k + 1 := by omega
    subst e
    obtain ⟨p', g1, g2, g3⟩ := h4
    have e := PA.uq F q g1 hp
    subst e
    exact ⟨y, h3, F.tD.v2 (F.tD.ed g3.1), ⟨p', g1, g2, g3⟩, g3⟩
theorem path_end (F : Fst n w E c D H) {i : Int} (hi : (H u v : Int) < i) (q : c u v) (h : PathAns E c D H u v i r) : r = -9 := by
  rcases h with ⟨-, h⟩ | ⟨-, ⟨-, h⟩ | ⟨k', y, h1, h2, h3, h4⟩⟩
  · exact h
  · exact h
  · omega
/-- the part that a vertex has in the reach -/
def prt (h : Nat) (wt : Nat) : Nat → Nat
  | 0 => wt
  | k + 1 => prt h wt k * (if k < h then 7 else 10)
theorem prt_eq {h wt : Nat} : ∀ k, prt h wt k = wt * (7 ^ (min k h) * 10 ^ (k - min k h))
  | 0 => by
    show wt = wt * (7 ^ (min 0 h) * 10 ^ (0 - min 0 h))
    rw [Nat.zero_min, Nat.pow_zero, Nat.mul_one]
  | k + 1 => by
    show prt h wt k * (if k < h then 7 else 10) = _
    rw [prt_eq k]
    by_cases c : k < h
    · rw [if_pos c, show min (k + 1) h = min k h + 1 by omega, show k + 1 - (min k h + 1) = k - min k h by omega, Nat.pow_succ, Nat.mul_assoc, Nat.mul_right_comm (7 ^ min k h) (10 ^ (k - min k h)) 7]
    · rw [if_neg c, show min (k + 1) h = min k h by omega, show k + 1 - min k h = k - min k h + 1 by omega, Nat.pow_succ, Nat.mul_assoc, Nat.mul_assoc (7 ^ min k h) (10 ^ (k - min k h)) 10]
theorem prt_11 {h wt : Nat} (hh : h ≤ 11) : prt h wt 11 = wt * chn 7 h := by
  rw [prt_eq, show min 11 h = h by omega]
  unfold chn
  rw [Nat.mul_comm (7 ^ h)]
end CN
