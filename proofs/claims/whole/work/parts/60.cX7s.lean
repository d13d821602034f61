/-! the model: vertices of a path -/
section KM
variable {l : Launch} {G : Gx} {mem : Mem} {n : Nat} {w : Nat → Nat} {E : Nat → Nat → Nat} {c : Nat → Nat → Prop} {D H : Nat → Nat → Nat}
theorem c_mPath (hG : Mn G) (hr : Ra G 329) (h : RoAt mem 329 w E) (F : Fst n w E c D H) (h3 : mem 327 3 = nI n) {u v : Nat} (hu : u < n) (hv : v < n) {i : Int32} (hi : 0 ≤ i.toInt) : CtI l M_X7_pathVertex G [.ref (gA G 327), .int (nI u), .int (nI v), .int i] mem (fun r m => (∀ a, a ≠ 336 → a ≠ 337 → m a = mem a) ∧ PathAns E c D H u v i.toInt r) := by
  have hn := F.le
  have T := F.tD
  refine CtI_of (by decide) (Nat.le_of_ble_eq_true rfl) rfl (t_X7_pathVertex_0 hG _ _ _ mem ?_)
  refine ⟨_, c_isVertex' hG h3 hn hu, ?_⟩
  rintro r m ⟨rfl, rfl⟩
  refine ⟨fun z => absurd z (by decide), fun _ => ⟨_, c_isVertex' hG h3 hn hv, ?_⟩⟩
  rintro r m0 ⟨rfl, rfl⟩
  refine ⟨fun _ => ⟨fun _ => ⟨_, c_layFar hG hr h F hv, ?_⟩, fun z => absurd ((i_le _ _).mpr (by rw [i_0]; exact hi)) z⟩, fun z => absurd z (by decide)⟩
  rintro m1 ⟨a1, a2⟩
  have uin := i_in (k := u) (n := 12) (by omega) (by decide)
  have b3 : m1 327 3 = nI n := by rw [a1 327 (by decide) (by decide)]; exact h3
  have hR : RoAt m1 329 w E := h.eq' (a1 329 (by decide) (by decide))
  rw [i_cl (k := u) (by omega)]
  refine ⟨uin, fun z => ?_, fun z => ⟨uin, fun y => ?_, fun y => ?_⟩⟩
  · have q : ¬ c u v := fun q => i_n9 (k := D v u) (by have := F.dlt (T.sy q); omega) (((a2 u (by omega)).1 (T.sy q)).1.symm.trans z)
    exact ⟨a1, Or.inl ⟨q, rfl⟩⟩
  · have q : c v u := Classical.byContradiction fun q => z ((a2 u (by omega)).2 q).1
    have quv := T.sy q
    have hs : H v u = H u v := F.tH.ds q
    have hb := F.hle q
    rw [((a2 u (by omega)).1 q).2, i_le, i_nI (by omega)] at y
    obtain ⟨k, rfl, hk⟩ : ∃ k : Nat, i = nI k ∧ k ≤ H u v := ⟨i.toInt.toNat, by rw [i_eq, i_nI (by have := i_rng i; omega)]; omega, by omega⟩
    have ik : (nI k).toInt = k := i_nI (by omega)
    refine up_loop (P := fun j => ∀ x, PA E D u v j x → XI l M_X7_pathVertex G _ m1 64 [(0, .ref (gA G 327)), (3, .int (nI k)), (4, .int (nI x)), (5, .int (nI j))] []) (n := k) (Nat.zero_le _) ?_ ?_ u rfl
    · intro x hx
      exact t_X7_pathVertex_64 hG _ _ _ m1 ⟨fun _ => ⟨a1, Or.inr ⟨quv, Or.inr ⟨k, x, ik, hk, rfl, hx⟩⟩⟩, fun z => absurd ((i_nle (by omega) (by omega)).mpr (Nat.le_refl _)) z⟩
    · intro j _ hj ih x hx
      refine t_X7_pathVertex_64 hG _ _ _ m1 ⟨fun z => absurd ((i_nle (by omega) (by omega)).mp z) (by omega), fun _ => ?_⟩
      obtain ⟨hxv, hxh⟩ := PA.on F quv hx
      have hx2 := T.v1 hxv
      have hxne : x ≠ v := fun e => by
        subst e
        have := F.tH.d0 hx2
        omega
      obtain ⟨t, z1, z2⟩ := T.a5 hxv hxne
      have nz : Nxt E D x v t := ⟨z1, z2⟩
      have tn : t < n := T.v2 (T.ed z1)
      refine up_loop (P := fun y => XI l M_X7_pathVertex G _ m1 77 [(0, .ref (gA G 327)), (3, .int (nI k)), (4, .int (nI x)), (5, .int (nI j)), (6, .int (if t < y then nI t else -9)), (7, .int (nI y))] []) (n := n) (Nat.zero_le _) ?_ ?_ |> fun q => by rw [if_neg (Nat.not_lt_zero t)] at q; exact q
      · refine t_X7_pathVertex_77 hG _ _ _ _ _ m1 ?_
        rw [if_pos tn, b3, nI_1 j]
        exact ⟨fun _ => ih t ⟨x, hx, hxne, nz⟩, fun z => absurd ((i_nle (by omega) (by omega)).mpr (Nat.le_refl _)) z⟩
      · intro y _ hy ih2
        refine t_X7_pathVertex_77 hG _ _ _ _ _ m1 ?_
        rw [b3, nI_1 y]
        refine ⟨fun z => absurd ((i_nle (by omega) (by omega)).mp z) (by omega), fun _ => ⟨_, c_at, ?_⟩⟩
        rintro r m ⟨rfl, rfl⟩
        rw [i_cl (k := 12 + 12 * x + y) (by omega), i_cl (k := x) (by omega), i_cl (k := y) (by omega), hR.2 x y (by omega) (by omega)]
        have be := F.2.2.1 x y
        refine ⟨i_in (by omega) (by decide), fun z => ?_, fun z => ⟨i_in (by omega) (by decide), i_in (by omega) (by decide), ?_⟩⟩
        · have e0 : E x y = 0 := by have := (i_nle (b := 0) (by omega) (by decide)).mp z; omega
          have ne : t ≠ y := fun e => by subst e; omega
          by_cases q : t < y
          · rw [if_pos (by omega)] at ih2
            rw [if_pos q]; exact ih2
          · rw [if_neg (by omega)] at ih2
            rw [if_neg q]; exact ih2
        · have e0 : 0 < E x y := by
            rcases Nat.eq_zero_or_pos (E x y) with e | e
            · exact absurd (by rw [e]; exact (i_nle (a := 0) (b := 0) (by decide) (by decide)).mpr (Nat.le_refl _)) z
            · exact e
          have cyv : c y v := T.tr (T.sy (T.ed e0)) hxv
          have h1 := F.hle hxv
          have h2 := F.hle cyv
          have s1 : H v x = H x v := F.tH.ds (T.sy hxv)
          have s2 : H v y = H y v := F.tH.ds (T.sy cyv)
          have hp : H x v = 1 + H t v := nz.hp F hxv
          rw [((a2 y (by omega)).1 (T.sy cyv)).2, ((a2 x (by omega)).1 (T.sy hxv)).2, s1, s2, show nI (H x v) - 1 = nI (H x v - 1) from pk_sub (b := 1) (by omega), i_neq (by omega) (by omega)]
          refine ⟨fun z2 => ?_, fun z2 => ?_⟩
          · have ne : t ≠ y := fun e => by subst e; omega
            by_cases q : t < y
            · rw [if_pos (by omega)] at ih2
              rw [if_pos q]; exact ih2
            · rw [if_neg (by omega)] at ih2
              rw [if_neg q]; exact ih2
          · have ny : Nxt E D x v y := ⟨e0, (F.tD.near' F.tH (un_pos (E := E)) hxv e0).mpr (by rw [un_1 e0]; omega)⟩
            have e := Nxt.uq F hxv nz ny
            subst e
            rw [if_pos (by omega)] at ih2
            exact ih2
  · have q : c v u := Classical.byContradiction fun q => z ((a2 u (by omega)).2 q).1
    have quv := T.sy q
    have hs : H v u = H u v := F.tH.ds q
    have hb := F.hle q
    rw [((a2 u (by omega)).1 q).2, i_le, i_nI (by omega)] at y
    exact ⟨a1, Or.inr ⟨quv, Or.inl ⟨by omega, rfl⟩⟩⟩
/-- the ends of a diameter -/
def EndAns (n : Nat) (c : Nat → Nat → Prop) (D : Nat → Nat → Nat) (v : Nat) (wh : Int32) (r : Int32) : Prop := ∃ a b, AMax (c v) (Ecc n c D) n a ∧ AMax (c a) (D a) n b ∧ r = if wh = 0 then nI a else nI b
theorem EndAns.uq {v : Nat} {wh r r' : Int32} (h : EndAns n c D v wh r) (h2 : EndAns n c D v wh r') : r = r' := by
  obtain ⟨a, b, h3, h4, h5⟩ := h
  obtain ⟨a', b', g3, g4, g5⟩ := h2
  have e := h3.uq g3
  subst e
  have e := h4.uq g4
  subst e
  rw [h5, g5]
theorem AMax_ex {p : Nat → Prop} {f : Nat → Nat} {k : Nat} (h : ∃ x, x < k ∧ p x) : ∃ a, AMax p f k a := by
  obtain ⟨x, h1, h2, h3⟩ := mxO_at (f := f) h
  obtain ⟨a, b1, ⟨b2, b3, b4⟩, b5⟩ := least_of (p := fun x => x < k ∧ p x ∧ f x = mxO p f k) x ⟨h1, h2, h3⟩
  refine ⟨a, b2, b3, fun y hy hp => by rw [b4]; exact mxO_ub hy hp, fun y hy hp => ?_⟩
  have le : f y ≤ mxO p f k := mxO_ub (by omega) hp
  have ne : ¬ f y = mxO p f k := fun e => b5 y hy ⟨by omega, hp, e⟩
  omega
theorem c_mEnd (hG : Mn G) (hr : Ra G 329) (h : RoAt mem 329 w E) (F : Fst n w E c D H) (h3 : mem 327 3 = nI n) {v : Nat} (hv : v < n) {wh : Int32} (hw : 0 ≤ wh.toInt ∧ wh.toInt ≤ 1) : CtI l M_X7_diameterEnd G [.ref (gA G 327), .int (nI v), .int wh] mem (fun r m => FOut mem m ∧ EndAns n c D v wh r) := by
  have hn := F.le
  have T := F.tD
  refine CtI_of (by decide) (Nat.le_of_ble_eq_true rfl) rfl (t_X7_diameterEnd_0 hG _ _ mem ?_)
  refine ⟨_, c_isVertex' hG h3 hn hv, ?_⟩
  rintro r m ⟨rfl, rfl⟩
  refine ⟨fun _ => ⟨_, c_in' wh 0 1 i_64_0 i_64_1, ?_⟩, fun z => absurd z (by decide)⟩
  rintro r m0 ⟨rfl, rfl⟩
  rw [if_pos hw]
  refine ⟨fun _ => ⟨_, c_diamOf hG hr (by decide) h F h3 hv, ?_⟩, fun z => absurd z (by decide)⟩
  rintro r m1 ⟨o1, rfl⟩
  obtain ⟨a, ha⟩ := AMax_ex (p := c v) (f := Ecc n c D) (k := n) ⟨v, hv, T.rf hv⟩
  have an := ha.1
  have cva := ha.2.1
  obtain ⟨b, hb⟩ := AMax_ex (p := c a) (f := D a) (k := n) ⟨a, an, T.rf an⟩
  have ed : mxO (c v) (Ecc n c D) n = Ecc n c D a := ha.mx
  have eb : Ecc n c D a = D a b := hb.mx
  have bn := hb.1
  have cab := hb.2.1
  have hab : a ≤ b := by
    rcases Nat.lt_or_ge b a with q | q
    · have q2 := ha.2.2.2 b q (T.tr cva cab)
      have q3 : D b a ≤ Ecc n c D b := mxO_ub (p := c b) (f := D b) an (T.sy cab)
      have := T.ds cab
      omega
    · exact q
  rw [ed, eb]
  have db := F.dlt cab
  -- an outer step that finds nothing
  refine up_loop (P := fun x => ∀ m : Mem, FOut m0 m → XI l M_X7_diameterEnd G _ m 36 [(0, .ref (gA G 327)), (1, .int (nI v)), (2, .int wh), (3, .int (nI (D a b))), (4, .int (nI x))] []) (n := a) (Nat.zero_le _) ?_ ?_ m1 o1
  · intro m o
    refine t_X7_diameterEnd_36 hG _ _ _ _ m ?_
    rw [o.n3 h3]
    refine ⟨fun z => absurd ((i_nle (by omega) (by omega)).mp z) (by omega), fun _ => ⟨_, c_layFar hG hr (o.ro (by decide) h) F an, ?_⟩⟩
    rintro m2 ⟨k1, k2⟩
    have o2 : FOut m0 m2 := o.tr (fun a h1 h2 _ => k1 a h1 h2)
    refine up_loop (P := fun y => XI l M_X7_diameterEnd G _ m2 59 [(0, .ref (gA G 327)), (1, .int (nI v)), (2, .int wh), (3, .int (nI (D a b))), (4, .int (nI a)), (5, .int (nI y))] []) (n := b) hab ?_ ?_
    · refine t_X7_diameterEnd_59 hG _ _ _ _ _ m2 ?_
      rw [o2.n3 h3, i_cl (k := v) (by omega), i_cl (k := b) (by omega), ((k2 b (by omega)).1 cab).1, ((k2 v (by omega)).1 (T.sy cva)).1]
      refine ⟨fun z => absurd ((i_nle (by omega) (by omega)).mp z) (by omega), fun _ => ⟨i_in (by omega) (by decide), fun z => absurd z (i_n9 (by have := F.dlt (T.sy cva); omega)), fun _ => ⟨i_in (by omega) (by decide), fun z => absurd rfl z, fun _ => ⟨fun z => ⟨o2, a, b, ha, hb, by rw [if_neg z]⟩, fun z => ⟨o2, a, b, ha, hb, by rw [if_pos z]⟩⟩⟩⟩⟩
    · intro y hay hy ih
      refine t_X7_diameterEnd_59 hG _ _ _ _ _ m2 ?_
      rw [o2.n3 h3, i_cl (k := v) (by omega), i_cl (k := y) (by omega), ((k2 v (by omega)).1 (T.sy cva)).1, nI_1 y]
      refine ⟨fun z => absurd ((i_nle (by omega) (by omega)).mp z) (by omega), fun _ => ⟨i_in (by omega) (by decide), fun z => absurd z (i_n9 (by have := F.dlt (T.sy cva); omega)), fun _ => ⟨i_in (by omega) (by decide), fun _ => ih, fun z => ?_⟩⟩⟩
      by_cases q : c a y
      · rw [((k2 y (by omega)).1 q).1, i_neq (by have := F.dlt q; omega) (by omega)] at z
        have := hb.2.2.2 y hy q
        omega
      · rw [((k2 y (by omega)).2 q).1] at z
        exact absurd z.symm (i_n9 (by omega))
  · intro x _ hx ih m o
    refine t_X7_diameterEnd_36 hG _ _ _ _ m ?_
    rw [o.n3 h3]
    refine ⟨fun z => absurd ((i_nle (by omega) (by omega)).mp z) (by omega), fun _ => ⟨_, c_layFar hG hr (o.ro (by decide) h) F (by omega), ?_⟩⟩
    rintro m2 ⟨k1, k2⟩
    have o2 : FOut m0 m2 := o.tr (fun a h1 h2 _ => k1 a h1 h2)
    refine up_loop (P := fun y => XI l M_X7_diameterEnd G _ m2 59 [(0, .ref (gA G 327)), (1, .int (nI v)), (2, .int wh), (3, .int (nI (D a b))), (4, .int (nI x)), (5, .int (nI y))] []) (n := n) (by omega) ?_ ?_
    · refine t_X7_diameterEnd_59 hG _ _ _ _ _ m2 ?_
      rw [o2.n3 h3, nI_1 x]
      exact ⟨fun _ => ih m2 o2, fun z => absurd ((i_nle (by omega) (by omega)).mpr (Nat.le_refl _)) z⟩
    · intro y _ hy ih2
      refine t_X7_diameterEnd_59 hG _ _ _ _ _ m2 ?_
      rw [o2.n3 h3, i_cl (k := v) (by omega), i_cl (k := y) (by omega), nI_1 x, nI_1 y]
      refine ⟨fun z => absurd ((i_nle (by omega) (by omega)).mp z) (by omega), fun _ => ⟨i_in (by omega) (by decide), fun _ => ih m2 o2, fun z => ⟨i_in (by omega) (by decide), fun _ => ih2, fun z2 => ?_⟩⟩⟩
      have q : c x v := Classical.byContradiction fun q => z ((k2 v (by omega)).2 q).1
      have lt := ha.2.2.2 x hx (T.sy q)
      by_cases q2 : c x y
      · rw [((k2 y (by omega)).1 q2).1, i_neq (by have := F.dlt q2; omega) (by omega)] at z2
        have : D x y ≤ Ecc n c D x := mxO_ub (p := c x) (f := D x) hy q2
        omega
      · rw [((k2 y (by omega)).2 q2).1] at z2
        exact absurd z2.symm (i_n9 (by omega))
end KM
