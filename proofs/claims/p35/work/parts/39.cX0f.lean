/-! Contraction: whole -/
section KX
variable {l : Launch} {G : Gx} {mem : Mem} {n k : Nat} {w : Nat → Nat} {E : Nat → Nat → Nat} {c : Nat → Nat → Prop} {D H : Nat → Nat → Nat}
theorem c_ctGather (hG : Mn G) (F : Fst n w E c D H) {v : Nat} (hv : v < n) (h0 : mem 59 0 = nI n) (hE : ∀ x y, x < n → y < n → mem (64 + x) y = nI (un E x y)) : CtV l M_X0_gatherTree G [.ref (gA G 59), .int (nI v)] mem (fun m => GAt m (S0 E c v).1 ∧ (∀ x, x < 12 → m 62 x = -9) ∧ m 59 0 = nI n ∧ ∀ a, a ≠ 59 → a ≠ 60 → a ≠ 62 → m a = mem a) := by
  have hn := F.le
  have T := F.tD
  have TH := F.tH
  refine CtV_of (by decide) (Nat.le_of_ble_eq_true rfl) rfl (t_X0_gatherTree_0 hG _ mem ?_)
  refine up_loop (P := fun u => ∀ m : Mem, (∀ x, x < u → m 60 x = 0 ∧ m 62 x = -9) → (∀ a, a ≠ 60 → a ≠ 62 → m a = mem a) → XV l M_X0_gatherTree G _ m 2 [(0, .ref (gA G 59)), (1, .int (nI v)), (2, .int (nI u))] []) (n := 12) (Nat.zero_le _) ?_ ?_ mem (fun x q => absurd q (Nat.not_lt_zero x)) (fun _ _ _ => rfl)
  · intro m i1 i2
    refine t_X0_gatherTree_2 hG _ _ m ?_
    refine ⟨fun _ => ?_, fun z => absurd ((i_nle (a := 12) (by decide) (by decide)).mpr (Nat.le_refl _)) z⟩
    have b0 : wr m 59 1 0 59 0 = nI n := by rw [wr_at, if_neg (by omega), i2 59 (by omega) (by omega)]; exact h0
    refine ⟨_, c_ctVertex hG b0 hn (by omega), ?_⟩
    rintro r m2 ⟨e, rfl⟩
    rw [if_pos hv, i_cl (by omega)]
    refine ⟨fun _ => ⟨i_in (by omega) (by decide), ?_⟩, fun z => absurd z (by decide)⟩
    have at0 : ∀ a b, wr (wr m2 60 v 1) 59 1 1 a b = if a = 59 ∧ b = 1 then 1 else if a = 60 ∧ b = v then 1 else m a b := fun a b => by
      rw [wr_at, wr_at, e, wr_at]
      by_cases q : a = 59 ∧ b = 1
      · simp only [if_pos q]
      · by_cases q2 : a = 60 ∧ b = v
        · simp only [if_neg q, if_pos q2]
        · simp only [if_neg q, if_neg q2]
    generalize wr (wr m2 60 v 1) 59 1 1 = m3 at at0
    have oth : ∀ a, a ≠ 59 → a ≠ 60 → m3 a = m a := fun a h1 h2 => by
      funext b
      rw [at0, if_neg (by omega), if_neg (by omega)]
    refine up_loop (P := fun j => ∀ m : Mem, (∃ B : Nat → Bool, GAt m B ∧ (∀ x, B x = true → c v x) ∧ (∀ x, c v x → H v x ≤ j → B x = true)) → m 59 0 = nI n → (∀ a, a ≠ 59 → a ≠ 60 → m a = m3 a) → XV l M_X0_gatherTree G _ m 57 [(0, .ref (gA G 59)), (2, .int (nI j))] []) (n := n) (Nat.zero_le _) ?_ ?_ m3 ⟨fun x => x == v, ⟨?_, fun x hx => ?_⟩, fun x q => ?_, fun x q q2 => ?_⟩ ?_ (fun _ _ _ => rfl)
    · rintro m4 ⟨B, j1, j2, j3⟩ j4 j5
      refine t_X0_gatherTree_57 hG _ m4 ?_
      refine ⟨fun _ => ⟨?_, fun x hx => ?_, j4, fun a h1 h2 h3 => ?_⟩, fun z => absurd (by rw [j4]; exact (i_nle (by omega) (by omega)).mpr (Nat.le_refl _)) z⟩
      · have : (S0 E c v).1 = B := by
          funext x
          exact Bool.eq_iff_iff.mpr (S0_P.trans ⟨fun q => j3 x q (by have := F.hlt q; omega), j2 x⟩)
        rw [this]; exact j1
      · rw [j5 62 (by omega) (by omega), oth 62 (by omega) (by omega)]; exact (i1 x hx).2
      · rw [j5 a h1 h2, oth a h1 h2, i2 a h2 h3]
    · rintro j _ hj ih m4 ⟨B, j1, j2, j3⟩ j4 j5
      refine t_X0_gatherTree_57 hG _ m4 ?_
      rw [j4, nI_1]
      refine ⟨fun z => absurd ((i_nle (by omega) (by omega)).mp z) (by omega), fun _ => ⟨_, c_ctNear hG F j4 (fun x y hx hy => by rw [j5 _ (by omega) (by omega), oth _ (by omega) (by omega), i2 _ (by omega) (by omega)]; exact hE x y hx hy) j1 j2, ?_⟩⟩
      rintro m5 ⟨B', b1, b2, b3, b4, b5, b6⟩
      refine ih m5 ⟨B', b1, b2, fun x q q2 => ?_⟩ b5 (fun a h1 h2 => by rw [b6 a h1 h2, j5 a h1 h2])
      by_cases e2 : H v x ≤ j
      · exact b3 x (j3 x q e2)
      · have ne : x ≠ v := fun e => by
          have := TH.d0 (x := v) hv
          rw [e] at e2; omega
        obtain ⟨z, z1, z2⟩ := TH.a5 (T.sy q) ne
        have u1 := un_le (E := E) x z
        have ez : 0 < E x z := (un_pos x z).mpr z1
        have s1 := TH.ds q
        have cz : c v z := T.tr q (T.ed ez)
        have s2 := TH.ds cz
        exact b4 z x (j3 z cz (by omega)) (by rw [T.ws]; exact ez)
    · rw [at0, if_pos ⟨rfl, rfl⟩, cn_one (t := v) (by omega) (by simp) (fun z _ q => by simpa using q)]; rfl
    · rw [at0, if_neg (by omega)]
      by_cases q : x = v
      · rw [if_pos ⟨rfl, q⟩, q]
        show (1 : Int32) = bI (v == v)
        rw [show (v == v) = true by simp]; rfl
      · rw [if_neg (by omega), (i1 x hx).1]
        show (0 : Int32) = bI (x == v)
        rw [show (x == v) = false by simpa using q]; rfl
    · have : x = v := by simpa using q
      rw [this]; exact T.rf hv
    · have := TH.d00 q (by omega)
      simp [this]
    · rw [at0, if_neg (by omega), if_neg (by omega), i2 59 (by omega) (by omega)]; exact h0
  · intro u _ hu ih m i1 i2
    refine t_X0_gatherTree_2 hG _ _ m ?_
    have uin := i_in (k := u) (n := 12) (by omega) (by decide)
    rw [i_cl (k := u) (by omega), nI_1 u]
    refine ⟨fun z => absurd ((i_nle (a := 12) (by decide) (by omega)).mp z) (by omega), fun _ => ⟨uin, uin, ih _ (fun x hx => ?_) (fun a h1 h2 => by rw [wr_n h2, wr_n h1]; exact i2 a h1 h2)⟩⟩
    rw [wr_at, wr_at, wr_at, wr_at]
    by_cases q : x = u
    · rw [if_neg (by omega), if_pos ⟨rfl, q⟩, if_pos ⟨rfl, q⟩]; exact ⟨rfl, rfl⟩
    · rw [if_neg (by omega), if_neg (by omega), if_neg (by omega), if_neg (by omega)]; exact i1 x (by omega)
theorem c_contract (hG : Mn G) {g : Nat} (hg : Fo G g) (hd : g + 15 ≤ 59 ∨ 76 ≤ g) (hf : FoAt mem g n w E) (F : Fst n w E c D H) {v : Nat} (hv : v < n) : CtV l M_X0_contract G [.ref (gA G 59), .ref (gA G g), .int (nI v)] mem (fun m => ∃ T, T ≤ 11 ∧ Fin1 (S0 E c v) T ∧ CAt m n (StC (S0 E c v) T) ∧ m 59 2 = nI T ∧ Out 59 76 mem m) := by
  have hn := F.le
  obtain ⟨t0, t1⟩ := Tc_S0 F hv
  obtain ⟨T, hT, fT, aT⟩ := t0.fin t1
  refine CtV_of (by decide) (Nat.le_of_ble_eq_true rfl) rfl (t_X0_contract_0 hG hg _ mem ?_)
  refine ⟨_, c_ctCopy hG hg hd hf F, ?_⟩
  rintro m1 ⟨a1, a2, a3⟩
  refine ⟨_, c_ctGather hG F hv a1 a2, ?_⟩
  rintro m2 ⟨b1, b2, b3, b4⟩
  refine up_loop (P := fun j => ∀ m : Mem, CAt m n (StC (S0 E c v) j) → m 59 2 = nI j → Out 59 76 mem m → XV l M_X0_contract G _ m 15 [(0, .ref (gA G 59))] []) (n := T) (Nat.zero_le _) ?_ ?_ _ ⟨?_, ?_, fun x hx => ?_, fun x hx => ?_, fun x hx px y hy => ?_⟩ ?_ (fun a ha => ?_)
  · intro m i1 i2 i3
    refine t_X0_contract_15 hG hg m ?_
    have cu := cn_up (StC (S0 E c v) T).1 12
    refine ⟨fun _ => ⟨T, hT, fT, i1, i2, i3⟩, fun z => absurd (by rw [i1.2.1]; exact (i_nle (b := 1) (by omega) (by decide)).mpr fT.2) z⟩
  · intro j _ hj ih m i1 i2 i3
    refine t_X0_contract_15 hG hg m ?_
    have cu := cn_up (StC (S0 E c v) j).1 12
    have c2 := fT.1 j hj
    have tj := (aT j (by omega)).1
    rw [i1.2.1, i2, nI_1 j]
    refine ⟨fun z => absurd ((i_nle (b := 1) (by omega) (by decide)).mp z) (by omega), fun _ => ⟨fun z => absurd ((i_nle (a := 12) (by decide) (by omega)).mp z) (by omega), fun _ => ?_⟩⟩
    have i1' : CAt (wr m 59 2 (nI (j + 1))) n (StC (S0 E c v) j) := ⟨by rw [wr_at, if_neg (by omega)]; exact i1.1, by rw [wr_at, if_neg (by omega)]; exact i1.2.1, by rw [wr_n (by omega)]; exact i1.2.2.1, by rw [wr_n (by omega)]; exact i1.2.2.2.1, fun x hx px y hy => by rw [wr_n (by omega)]; exact i1.2.2.2.2 x hx px y hy⟩
    refine ⟨_, c_ctRake hG i1' tj (k := j + 1) (by rw [wr_at, if_pos ⟨rfl, rfl⟩]), ?_⟩
    rintro m3 ⟨k1, k2, k3⟩
    refine ⟨_, c_ctCompress hG k1 (tj.rk c2).1 k2, ?_⟩
    rintro m4 ⟨k4, k5, k6⟩
    exact ih m4 k4 k5 (((i3.wr (by omega) (by omega)).tr k3).tr k6)
  · rw [wr_at, if_neg (by omega)]; exact b3
  · rw [wr_at, if_neg (by omega)]; exact b1.1
  · rw [wr_n (by omega)]; exact b1.2 x hx
  · rw [wr_n (by omega)]; exact b2 x hx
  · rw [wr_n (by omega), b4 _ (by omega) (by omega) (by omega), a2 x y hx hy]
    show _ = nI (ifc (c v x) (un E x y) 0)
    rw [ifc_t (S0_P.mp px)]
  · rw [wr_at, if_pos ⟨rfl, rfl⟩]; rfl
  · rw [wr_n (by omega), b4 a (by omega) (by omega) (by omega)]; exact a3 a ha
end KX
