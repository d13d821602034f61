/-! the model's contraction: the steps -/
section KM
variable {l : Launch} {G : Gx} {mem : Mem} {n k : Nat} {S : Cs}
/-- one of two is a leaf -/
theorem Tc.two (t : Tc n S) (h2 : cn S.1 12 = 2) {x : Nat} (hx : S.1 x = true) : cn (nz S.2.1 x) 12 = 1 := by
  obtain ⟨⟨W, D, hT, hW⟩, hL, hN, hn⟩ := id t
  obtain ⟨y, y1, y2, y3⟩ := cn_other (p := S.1) (x := x) (k := 12) (by omega)
  obtain ⟨z, hz⟩ := hT.nbr hx y2 (fun e => y3 e.symm)
  have pz := (hT.p2 hz).2
  refine cn_one (t := z) (t.lt pz) (nz_t.mpr ((hW _ _).mpr hz)) (fun u hu q => ?_)
  have hu2 := (hW _ _).mp (nz_t.mp q)
  have pu := (hT.p2 hu2).2
  refine Decidable.byContradiction fun ne => ?_
  have m1 : x ≠ u := fun e => by rw [← e, TR.wi hT] at hu2; omega
  have m2 : x ≠ z := fun e => by rw [← e, TR.wi hT] at hz; omega
  have := cn_3 (t.lt hx) (t.lt pu) (t.lt pz) hx pu pz m1 m2 ne
  omega
theorem c_mRake (hG : Mn G) (h : MAt mem S) (t : Tc n S) : CtV l M_X7_rake G [.ref (gA G 327), .int (nI k)] mem (fun m => MAt m (rkj k S 12) ∧ Out 339 343 mem m) := by
  have cu := cn_up S.1 12
  refine CtV_of (by decide) (Nat.le_of_ble_eq_true rfl) rfl (t_X7_rake_0 hG _ mem ?_)
  refine ⟨_, c_mMany hG h, ?_⟩
  rintro r m0 ⟨rfl, rfl⟩
  -- the second loop
  have second : ∀ m : Mem, (∀ a, a ≠ 341 → m a = m0 a) → (∀ x, x < 12 → m 341 x = bI (mk S x)) → XV l M_X7_rake G (fun m => MAt m (rkj k S 12) ∧ Out 339 343 m0 m) m 95 [(0, .ref (gA G 327)), (1, .int (nI k)), (4, .int 0)] [] := by
    intro m i1 i2
    have h1 : MAt m S := ⟨by rw [i1 340 (by omega)]; exact h.1, by rw [i1 342 (by omega)]; exact h.2.1, by rw [i1 339 (by omega)]; exact h.2.2⟩
    refine up_loop (P := fun v => ∀ m2 : Mem, MAt m2 (rkj k S v) → m2 341 = m 341 → Out 339 343 m0 m2 → XV l M_X7_rake G _ m2 95 [(0, .ref (gA G 327)), (1, .int (nI k)), (4, .int (nI v))] []) (n := 12) (Nat.zero_le _) ?_ ?_ m h1 rfl (fun a ha => i1 a (by omega))
    · intro m2 j1 j3 j4
      refine t_X7_rake_95 hG _ _ m2 ?_
      exact ⟨fun _ => ⟨j1, j4⟩, fun z => absurd ((i_nle (a := 12) (by decide) (by decide)).mpr (Nat.le_refl _)) z⟩
    · intro v _ hv ih m2 j1 j3 j4
      refine t_X7_rake_95 hG _ _ m2 ?_
      rw [i_cl (by omega), nI_1 v, j3, i2 v hv]
      refine ⟨fun z => absurd ((i_nle (a := 12) (by decide) (by omega)).mp z) (by omega), fun _ => ⟨i_in hv (by decide), fun z2 => ?_, fun z2 => ?_⟩⟩
      · have e : rkj k S (v + 1) = rkj k S v := if_neg (bI_0.mp z2)
        exact ih m2 (by rw [e]; exact j1) j3 j4
      · have pm1 : mk S v = true := Decidable.byContradiction fun q => z2 (bI_0.mpr q)
        have e : rkj k S (v + 1) = rmv k v (rkj k S v) := if_pos pm1
        refine ⟨_, c_mRemove hG j1 hv, ?_⟩
        rintro m3 ⟨k1, k3, k4⟩
        exact ih m3 (by rw [e]; exact k1) (k3.trans j3) (j4.tr k4)
  -- the first loop; a2: two are present, a3: none was seen
  have first : ∀ a2 : Int32, (a2 = 0 ↔ cn S.1 12 ≠ 2) → XV l M_X7_rake G (fun m => MAt m (rkj k S 12) ∧ Out 339 343 m0 m) m0 19 [(0, .ref (gA G 327)), (1, .int (nI k)), (2, .int a2), (3, .int 1), (4, .int 0)] [] := by
    intro a2 ha2
    refine up_loop (P := fun v => ∀ (m : Mem) (a3 : Int32), (∀ a, a ≠ 341 → m a = m0 a) → (∀ x, x < v → m 341 x = bI (mk S x)) → (cn S.1 12 = 2 → (a3 = 0 ↔ ∃ x, x < v ∧ S.1 x = true)) → XV l M_X7_rake G _ m 19 [(0, .ref (gA G 327)), (1, .int (nI k)), (2, .int a2), (3, .int a3), (4, .int (nI v))] []) (n := 12) (Nat.zero_le _) ?_ ?_ m0 1 (fun _ _ => rfl) (fun x q => absurd q (Nat.not_lt_zero x)) (fun _ => ⟨fun z => absurd z (by decide), fun ⟨x, q, _⟩ => absurd q (Nat.not_lt_zero x)⟩)
    · intro m a3 i1 i2 _
      refine t_X7_rake_19 hG _ _ _ _ m ?_
      exact ⟨fun _ => second m i1 i2, fun z => absurd ((i_nle (a := 12) (by decide) (by decide)).mpr (Nat.le_refl _)) z⟩
    · intro v _ hv ih m a3 i1 i2 i3
      refine t_X7_rake_19 hG _ _ _ _ m ?_
      have vin := i_in hv (by decide)
      have h1 : MAt m S := ⟨by rw [i1 340 (by omega)]; exact h.1, by rw [i1 342 (by omega)]; exact h.2.1, by rw [i1 339 (by omega)]; exact h.2.2⟩
      have next : ∀ (m2 : Mem) (a3' : Int32), (∀ a, a ≠ 341 → m2 a = m a) → (∀ x, x ≠ v → m2 341 x = m 341 x) → m2 341 v = bI (mk S v) → (cn S.1 12 = 2 → (a3' = 0 ↔ ∃ x, x < v + 1 ∧ S.1 x = true)) → XV l M_X7_rake G (fun m => MAt m (rkj k S 12) ∧ Out 339 343 m0 m) m2 19 [(0, .ref (gA G 327)), (1, .int (nI k)), (2, .int a2), (3, .int a3'), (4, .int (nI (v + 1)))] [] := fun m2 a3' q1 q2 q3 q4 =>
        ih m2 a3' (fun a ha => by rw [q1 a ha]; exact i1 a ha) (fun x hx => by
          by_cases e : x = v
          · rw [e]; exact q3
          · rw [q2 x e]; exact i2 x (by omega)) q4
      have o1 : ∀ r : Int32, ∀ a, a ≠ 341 → wr m 341 v r a = m a := fun r a ha => wr_n ha
      have o2 : ∀ r : Int32, ∀ x, x ≠ v → wr m 341 v r 341 x = m 341 x := fun r x hx => by rw [wr_at, if_neg (by omega)]
      have o3 : ∀ r : Int32, wr m 341 v r 341 v = r := fun r => by rw [wr_at, if_pos ⟨rfl, rfl⟩]
      have old3 : ¬ S.1 v = true → cn S.1 12 = 2 → (a3 = 0 ↔ ∃ x, x < v + 1 ∧ S.1 x = true) := fun np e => (i3 e).trans ⟨fun ⟨x, q1, q2⟩ => ⟨x, by omega, q2⟩, fun ⟨x, q1, q2⟩ => ⟨x, by
        have : x ≠ v := fun e => np (by rw [← e]; exact q2)
        omega, q2⟩⟩
      rw [i_cl (by omega), nI_1 v, h1.1 v hv]
      refine ⟨fun z => absurd ((i_nle (a := 12) (by decide) (by omega)).mp z) (by omega), fun _ => ⟨vin, fun z => ⟨vin, vin, fun _ => ?_, fun z2 => absurd (o3 0) z2⟩, fun z => ?_⟩⟩
      · have np := bI_0.mp z
        exact next _ a3 (o1 0) (o2 0) (by rw [o3]; exact (bI_0.mpr (fun q => np (mk_P q))).symm) (old3 np)
      · have pv : S.1 v = true := Decidable.byContradiction fun q => z (bI_0.mpr q)
        refine ⟨_, c_mDegree hG h1 t hv, ?_⟩
        rintro r m ⟨rfl, rfl⟩
        have cu2 := cn_up (nz S.2.1 v) 12
        refine ⟨fun z3 => ⟨vin, vin, fun _ => ?_, fun z2 => absurd (o3 0) z2⟩, fun z3 => ⟨vin, vin, fun z2 => absurd ((o3 1).symm.trans z2) (by decide), fun _ => ⟨fun z4 => ?_, fun z4 => ⟨fun z5 => ?_, fun z5 => ⟨vin, ?_⟩⟩⟩⟩⟩
        · -- no leaf: not two
          have ne : cn S.1 12 ≠ 2 := fun e => z3 (by rw [t.two e pv]; rfl)
          exact next _ a3 (o1 0) (o2 0) (by rw [o3]; exact (bI_0.mpr (fun q => z3 (by rw [((mk_3 ne).mp q).2]; rfl))).symm) (fun e => absurd e ne)
        · have ne := ha2.mp z4
          have e := (i_neq (b := 1) (by omega) (by decide)).mp z3
          have e2 : mk S v = true := (mk_3 ne).mpr ⟨pv, e⟩
          exact next _ a3 (o1 1) (o2 1) (by rw [o3, e2]; rfl) (fun e => absurd e ne)
        · have e : cn S.1 12 = 2 := Decidable.byContradiction fun q => z4 (ha2.mpr q)
          obtain ⟨x, x1, x2⟩ := (i3 e).mp z5
          have e2 : mk S v = true := (mk_2 e).mpr ⟨pv, fun u u1 u2 u3 => by
            have := cn_3 (t.lt x2) hv u1 x2 pv u3 (by omega) (by omega) (by omega)
            omega⟩
          exact next _ a3 (o1 1) (o2 1) (by rw [o3, e2]; rfl) (fun _ => ⟨fun _ => ⟨x, by omega, x2⟩, fun _ => z5⟩)
        · have e : cn S.1 12 = 2 := Decidable.byContradiction fun q => z4 (ha2.mpr q)
          have e2 : ¬ mk S v = true := fun q => by
            obtain ⟨y, y1, y2, y3⟩ := cn_other (p := S.1) (x := v) (k := 12) (by omega)
            have g := ((mk_2 e).mp q).2 y y1
            refine z5 ((i3 e).mpr ⟨y, ?_, y2⟩)
            rcases Nat.lt_trichotomy y v with w | w | w
            · exact w
            · exact absurd w y3
            · exact absurd y2 (g w)
          refine next _ 0 (fun a ha => by rw [wr_n ha, wr_n ha]) (fun x hx => by rw [wr_at, if_neg (by omega), wr_at, if_neg (by omega)]) (by rw [wr_at, if_pos ⟨rfl, rfl⟩]; exact (bI_0.mpr e2).symm) (fun _ => ⟨fun _ => ⟨v, by omega, pv⟩, fun _ => rfl⟩)
  refine ⟨fun z => first 0 ⟨fun _ e => z (by rw [e]; rfl), fun _ => rfl⟩, fun z => first 1 ⟨fun q => absurd q (by decide), fun q => absurd ((i_neq (b := 2) (by omega) (by decide)).mp z) q⟩⟩
end KM
