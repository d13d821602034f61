/-! the model contracts -/
section KM
variable {l : Launch} {G : Gx} {mem : Mem} {n k : Nat} {w : Nat → Nat} {E : Nat → Nat → Nat} {c : Nat → Nat → Prop} {D H : Nat → Nat → Nat}
/-- what the model's contraction may touch -/
def MOut (mem m : Mem) : Prop := (∀ a, a ≠ 327 → a ≠ 336 → a ≠ 337 → (a < 339 ∨ 343 ≤ a) → m a = mem a) ∧ ∀ j, j ≠ 22 → j ≠ 23 → m 327 j = mem 327 j
theorem MOut.out {m1 m2 m3 : Mem} (h : MOut m1 m2) (h2 : Out 339 343 m2 m3) : MOut m1 m3 := ⟨fun a a1 a2 a3 a4 => (h2 a a4).trans (h.1 a a1 a2 a3 a4), fun j j1 j2 => by rw [h2 327 (by omega)]; exact h.2 j j1 j2⟩
theorem MOut.wr {m1 m2 : Mem} {j : Nat} {x : Int32} (h : MOut m1 m2) (q : j = 22 ∨ j = 23) : MOut m1 (wr m2 327 j x) := ⟨fun a a1 a2 a3 a4 => by rw [wr_n a1]; exact h.1 a a1 a2 a3 a4, fun i j1 j2 => by rw [wr_at, if_neg (by omega)]; exact h.2 i j1 j2⟩
theorem c_mContract (hG : Mn G) {r : Nat} (hr : Ra G r) (hr2 : r < 336 ∧ r ≠ 327) (h : RoAt mem r w E) (F : Fst n w E c D H) {v : Nat} (hv : v < n) : CtV l M_X7_contract G [.ref (gA G 327), .ref (gA G r), .int (nI v)] mem (fun m => ∃ T, T ≤ 11 ∧ Fin1 (S0 E c v) T ∧ MAt m (StC (S0 E c v) T) ∧ m 327 23 = nI T ∧ (∃ u, u < 12 ∧ m 327 22 = nI u ∧ (StC (S0 E c v) T).1 u = true ∧ ∀ x, x < u → ¬ (StC (S0 E c v) T).1 x = true) ∧ MOut mem m) := by
  have hn := F.le
  obtain ⟨t0, t1⟩ := Tc_S0 F hv
  obtain ⟨T, hT, fT, aT⟩ := t0.fin t1
  refine CtV_of (by decide) (Nat.le_of_ble_eq_true rfl) rfl (t_X7_contract_0 hG hr _ mem ?_)
  refine ⟨_, c_layFar hG hr h F hv, ?_⟩
  rintro m1 ⟨a1, a2⟩
  have f9 : ∀ x, x < 12 → (m1 336 x = -9 ↔ ¬ c v x) := fun x hx => ⟨fun z q => i_n9 (k := D v x) (by have := F.dlt q; omega) (((a2 x hx).1 q).1.symm.trans z), fun q => ((a2 x hx).2 q).1⟩
  have m1out : MOut mem m1 := ⟨fun a _ h2 h3 _ => a1 a h2 h3, fun j _ _ => by rw [a1 327 (by omega) (by omega)]⟩
  refine up_loop (P := fun u => ∀ m : Mem, (∀ x, x < u → m 340 x = bI ((S0 E c v).1 x) ∧ m 342 x = -9) → (∀ a, a ≠ 340 → a ≠ 342 → m a = m1 a) → XV l M_X7_contract G _ m 8 [(0, .ref (gA G 327)), (1, .ref (gA G r)), (3, .int (nI u))] []) (n := 12) (Nat.zero_le _) ?_ ?_ m1 (fun x q => absurd q (Nat.not_lt_zero x)) (fun _ _ _ => rfl)
  · intro m2 i1 i2
    refine t_X7_contract_8 hG hr _ m2 ?_
    refine ⟨fun _ => ?_, fun z => absurd ((i_nle (a := 12) (by decide) (by decide)).mpr (Nat.le_refl _)) z⟩
    refine up_loop (P := fun u => ∀ m : Mem, (∀ x y, x < u → y < 12 → m 339 (12 * x + y) = nI ((S0 E c v).2.1 x y)) → (∀ a, a ≠ 339 → m a = m2 a) → XV l M_X7_contract G _ m 52 [(0, .ref (gA G 327)), (1, .ref (gA G r)), (3, .int (nI u))] []) (n := 12) (Nat.zero_le _) ?_ ?_ m2 (fun x y q _ => absurd q (Nat.not_lt_zero x)) (fun _ _ => rfl)
    · intro m3 j1 j2
      refine t_X7_contract_52 hG hr _ m3 ?_
      refine ⟨fun _ => ?_, fun z => absurd ((i_nle (a := 12) (by decide) (by decide)).mpr (Nat.le_refl _)) z⟩
      have g0 : MAt (wr m3 327 23 0) (StC (S0 E c v) 0) := ⟨fun x hx => by rw [wr_n (by omega), j2 340 (by omega)]; exact (i1 x hx).1, fun x hx => by rw [wr_n (by omega), j2 342 (by omega)]; exact (i1 x hx).2, fun x y hx hy => by rw [wr_n (by omega)]; exact j1 x y hx hy⟩
      have m3out : MOut mem m3 := ⟨fun a h1 h2 h3 h4 => by rw [j2 a (by omega), i2 a (by omega) (by omega)]; exact m1out.1 a h1 h2 h3 h4, fun j h1 h2 => by rw [j2 327 (by omega), i2 327 (by omega) (by omega)]; exact m1out.2 j h1 h2⟩
      refine up_loop (P := fun j => ∀ m : Mem, MAt m (StC (S0 E c v) j) → m 327 23 = nI j → MOut mem m → XV l M_X7_contract G _ m 122 [(0, .ref (gA G 327))] []) (n := T) (Nat.zero_le _) ?_ ?_ _ g0 (by rw [wr_at, if_pos ⟨rfl, rfl⟩]; rfl) (m3out.wr (Or.inr rfl))
      · intro m k1 k2 k3
        refine t_X7_contract_122 hG hr m ?_
        refine ⟨_, c_mMany hG k1, ?_⟩
        rintro r m4 ⟨rfl, rfl⟩
        have cu := cn_up (StC (S0 E c v) T).1 12
        refine ⟨fun _ => ?_, fun z => absurd ((i_nle (b := 1) (by omega) (by decide)).mpr fT.2) z⟩
        obtain ⟨x, x1, x2⟩ := cn_ex (aT T (Nat.le_refl _)).2
        obtain ⟨-, u2, u3, u4⟩ := fn_ex (p := (StC (S0 E c v) T).1) (d := 12) (i := 0) ⟨x, by omega, by omega, x2⟩
        generalize fn (StC (S0 E c v) T).1 12 0 = u at u2 u3 u4
        refine up_loop (P := fun y => ∀ m : Mem, MAt m (StC (S0 E c v) T) → m 327 23 = nI T → m 327 22 = nI y → MOut mem m → XV l M_X7_contract G _ m 164 [(0, .ref (gA G 327))] []) (n := u) (Nat.zero_le _) ?_ ?_ _ ⟨fun x hx => by rw [wr_n (by omega)]; exact k1.1 x hx, fun x hx => by rw [wr_n (by omega)]; exact k1.2.1 x hx, fun x y hx hy => by rw [wr_n (by omega)]; exact k1.2.2 x y hx hy⟩ (by rw [wr_at, if_neg (by omega)]; exact k2) (by rw [wr_at, if_pos ⟨rfl, rfl⟩]; rfl) (k3.wr (Or.inl rfl))
        · intro m g1 g2 g3 g4
          refine t_X7_contract_164 hG hr m ?_
          have e22 : (m 327 22).toNatClampNeg = u := by rw [g3, i_cl (by omega)]
          rw [e22, g1.1 u (by omega)]
          refine ⟨by rw [g3]; exact i_in (by omega) (by decide), fun _ => ⟨T, hT, fT, g1, g2, ⟨u, by omega, g3, u3, fun x hx => u4 x (Nat.zero_le _) hx⟩, g4⟩, fun z => absurd u3 (bI_0.mp z)⟩
        · intro y _ hy ih m g1 g2 g3 g4
          refine t_X7_contract_164 hG hr m ?_
          have np := u4 y (Nat.zero_le _) hy
          rw [g3, i_cl (by omega), g1.1 y (by omega), nI_1 y]
          refine ⟨i_in (by omega) (by decide), fun z => absurd (bI_0.mpr np) z, fun _ => ih _ ⟨fun x hx => by rw [wr_n (by omega)]; exact g1.1 x hx, fun x hx => by rw [wr_n (by omega)]; exact g1.2.1 x hx, fun x y hx hy => by rw [wr_n (by omega)]; exact g1.2.2 x y hx hy⟩ (by rw [wr_at, if_neg (by omega)]; exact g2) (by rw [wr_at, if_pos ⟨rfl, rfl⟩]) (g4.wr (Or.inl rfl))⟩
      · intro j _ hj ih m k1 k2 k3
        refine t_X7_contract_122 hG hr m ?_
        refine ⟨_, c_mMany hG k1, ?_⟩
        rintro r m4 ⟨rfl, rfl⟩
        have cu := cn_up (StC (S0 E c v) j).1 12
        have c2 := fT.1 j hj
        have tj := (aT j (by omega)).1
        refine ⟨fun z => absurd ((i_nle (b := 1) (by omega) (by decide)).mp z) (by omega), fun _ => ?_⟩
        rw [k2, nI_1 j]
        have e23 : wr m4 327 23 (nI (j + 1)) 327 23 = nI (j + 1) := by rw [wr_at, if_pos ⟨rfl, rfl⟩]
        rw [e23]
        have k1' : MAt (wr m4 327 23 (nI (j + 1))) (StC (S0 E c v) j) := ⟨fun x hx => by rw [wr_n (by omega)]; exact k1.1 x hx, fun x hx => by rw [wr_n (by omega)]; exact k1.2.1 x hx, fun x y hx hy => by rw [wr_n (by omega)]; exact k1.2.2 x y hx hy⟩
        refine ⟨_, c_mRake hG k1' tj (k := j + 1), ?_⟩
        rintro m5 ⟨b1, b2⟩
        have e5 : m5 327 23 = nI (j + 1) := by rw [b2 327 (by omega)]; exact e23
        rw [e5]
        refine ⟨_, c_mCompress hG b1 (tj.rk c2).1 (k := j + 1), ?_⟩
        rintro m6 ⟨b3, b4⟩
        exact ih m6 b3 (by rw [b4 327 (by omega)]; exact e5) (((k3.wr (Or.inr rfl)).out b2).out b4)
    · intro u _ hu ih m3 j1 j2
      refine t_X7_contract_52 hG hr _ m3 ?_
      refine ⟨fun z => absurd ((i_nle (a := 12) (by decide) (by omega)).mp z) (by omega), fun _ => ?_⟩
      refine up_loop (P := fun y0 => ∀ m : Mem, (∀ x y, x < 12 → y < 12 → (x < u ∨ (x = u ∧ y < y0)) → m 339 (12 * x + y) = nI ((S0 E c v).2.1 x y)) → (∀ a, a ≠ 339 → m a = m2 a) → XV l M_X7_contract G _ m 61 [(0, .ref (gA G 327)), (1, .ref (gA G r)), (3, .int (nI u)), (4, .int (nI y0))] []) (n := 12) (Nat.zero_le _) ?_ ?_ m3 (fun x y hx hy q => j1 x y (by omega) hy) j2
      · intro m k1 k2
        refine t_X7_contract_61 hG hr _ _ m ?_
        rw [nI_1 u]
        exact ⟨fun _ => ih m (fun x y hx hy => k1 x y (by omega) hy (by omega)) k2, fun z => absurd ((i_nle (a := 12) (by decide) (by decide)).mpr (Nat.le_refl _)) z⟩
      · intro y0 _ hy0 ih2 m k1 k2
        refine t_X7_contract_61 hG hr _ _ m ?_
        have uin := i_in hu (by decide)
        have iin := i_in (k := 12 * u + y0) (n := 144) (by omega) (by decide)
        have go : ∀ x : Int32, x = nI ((S0 E c v).2.1 u y0) → XV l M_X7_contract G (fun m => ∃ T, T ≤ 11 ∧ Fin1 (S0 E c v) T ∧ MAt m (StC (S0 E c v) T) ∧ m 327 23 = nI T ∧ (∃ u, u < 12 ∧ m 327 22 = nI u ∧ (StC (S0 E c v) T).1 u = true ∧ ∀ x, x < u → ¬ (StC (S0 E c v) T).1 x = true) ∧ MOut mem m) (wr m 339 (12 * u + y0) x) 61 [(0, .ref (gA G 327)), (1, .ref (gA G r)), (3, .int (nI u)), (4, .int (nI (y0 + 1)))] [] := fun x ex => by
          refine ih2 _ (fun a b ha hb q => ?_) (fun a ha => by rw [wr_n ha]; exact k2 a ha)
          rw [wr_at]
          by_cases e : 12 * a + b = 12 * u + y0
          · rw [if_pos ⟨rfl, e⟩, ex, show a = u by omega, show b = y0 by omega]
          · rw [if_neg (by omega)]; exact k1 a b ha hb (by omega)
        rw [i_at, i_cl (k := u) (by omega), i_cl (k := 12 * u + y0) (by omega), nI_1 y0, k2 340 (by omega), (i1 u hu).1]
        refine ⟨fun z => absurd ((i_nle (a := 12) (by decide) (by omega)).mp z) (by omega), fun _ => ⟨uin, fun z => ⟨iin, go 0 ?_⟩, fun z => ⟨_, c_at, ?_⟩⟩⟩
        · have e : (S0 E c v).2.1 u y0 = 0 := ifc_f (fun q => bI_0.mp z (S0_P.mpr q))
          rw [e]; rfl
        · rintro r' m' ⟨rfl, rfl⟩
          have pc : c v u := S0_P.mp (Decidable.byContradiction fun q => z (bI_0.mpr q))
          have e : (S0 E c v).2.1 u y0 = un E u y0 := ifc_t pc
          have er : m' r (12 + 12 * u + y0) = nI (E u y0) := by rw [k2 r (by omega), i2 r (by omega) (by omega), a1 r (by omega) (by omega)]; exact h.2 u y0 hu hy0
          have be := F.2.2.1 u y0
          rw [i_cl (by omega), er]
          refine ⟨i_in (by omega) (by decide), fun z2 => ⟨iin, go 0 ?_⟩, fun z2 => ⟨iin, go 1 ?_⟩⟩
          · have := (i_nle (b := 0) (by omega) (by decide)).mp z2
            have b9 := (un_pos (E := E) u y0).mpr
            have b8 := un_le (E := E) u y0
            rw [e, show un E u y0 = 0 by omega]; rfl
          · have : ¬ E u y0 ≤ 0 := fun q => z2 ((i_nle (b := 0) (by omega) (by decide)).mpr q)
            rw [e, un_1 (by omega)]; rfl
  · intro u _ hu ih m i1 i2
    refine t_X7_contract_8 hG hr _ m ?_
    have uin := i_in hu (by decide)
    have go : ∀ x : Int32, x = bI ((S0 E c v).1 u) → XV l M_X7_contract G (fun m => ∃ T, T ≤ 11 ∧ Fin1 (S0 E c v) T ∧ MAt m (StC (S0 E c v) T) ∧ m 327 23 = nI T ∧ (∃ u, u < 12 ∧ m 327 22 = nI u ∧ (StC (S0 E c v) T).1 u = true ∧ ∀ x, x < u → ¬ (StC (S0 E c v) T).1 x = true) ∧ MOut mem m) (wr (wr m 340 u x) 342 u (-9)) 8 [(0, .ref (gA G 327)), (1, .ref (gA G r)), (3, .int (nI (u + 1)))] [] := fun x ex => by
      refine ih _ (fun y hy => ?_) (fun a h1 h2 => by rw [wr_n h2, wr_n h1]; exact i2 a h1 h2)
      rw [wr_at, wr_at, wr_at, wr_at]
      by_cases q : y = u
      · rw [if_neg (by omega), if_pos ⟨rfl, q⟩, if_pos ⟨rfl, q⟩, q]; exact ⟨ex, rfl⟩
      · rw [if_neg (by omega), if_neg (by omega), if_neg (by omega), if_neg (by omega)]; exact i1 y (by omega)
    rw [i_cl (by omega), nI_1 u, i2 336 (by omega) (by omega)]
    refine ⟨fun z => absurd ((i_nle (a := 12) (by decide) (by omega)).mp z) (by omega), fun _ => ⟨uin, fun z => ⟨uin, uin, go 0 ?_⟩, fun z => ⟨uin, uin, go 1 ?_⟩⟩⟩
    · exact (bI_0.mpr (fun q => (f9 u hu).mp z (S0_P.mp q))).symm
    · have : (S0 E c v).1 u = true := S0_P.mpr (Classical.byContradiction fun q => z ((f9 u hu).mpr q))
      rw [this]; rfl
end KM
