/-! the model's contraction: whole -/
section KM
variable {l : Launch} {G : Gx} {mem : Mem} {n k : Nat} {S : Cs}
theorem c_mCompress (hG : Mn G) (h : MAt mem S) (t : Tc n S) : CtV l M_X7_compress G [.ref (gA G 327), .int (nI k)] mem (fun m => MAt m (cpj k S 12) ∧ Out 339 343 mem m) := by
  refine CtV_of (by decide) (Nat.le_of_ble_eq_true rfl) rfl (t_X7_compress_0 hG _ mem ?_)
  refine up_loop (P := fun K => ∀ m : Mem, (∀ a, a ≠ 339 → m a = mem a) → (∀ x y, x < 12 → y < 12 → m 339 (12 * x + y) = if 12 * x + y < K then nI (min (S.2.1 x y) 1) else nI (S.2.1 x y)) → XV l M_X7_compress G _ m 2 [(0, .ref (gA G 327)), (1, .int (nI k)), (2, .int (nI K))] []) (n := 144) (Nat.zero_le _) ?_ ?_ mem (fun _ _ => rfl) (fun x y hx hy => by rw [if_neg (by omega)]; exact h.2.2 x y hx hy)
  · intro m1 i1 i2
    refine t_X7_compress_2 hG _ _ m1 ?_
    refine ⟨fun _ => ?_, fun z => absurd ((i_nle (a := 144) (by decide) (by decide)).mpr (Nat.le_refl _)) z⟩
    have h1 : MAt m1 (cpj k S 0) := ⟨by rw [i1 340 (by omega)]; exact h.1, by rw [i1 342 (by omega)]; exact h.2.1, fun x y hx hy => by rw [i2 x y hx hy, if_pos (by omega)]; rfl⟩
    refine up_loop (P := fun v => ∀ m : Mem, MAt m (cpj k S v) → Out 339 343 mem m → XV l M_X7_compress G _ m 37 [(0, .ref (gA G 327)), (1, .int (nI k)), (2, .int (nI v))] []) (n := 12) (Nat.zero_le _) ?_ ?_ m1 h1 (fun a ha => i1 a (by omega))
    · intro m j1 j2
      refine t_X7_compress_37 hG _ _ m ?_
      exact ⟨fun _ => ⟨j1, j2⟩, fun z => absurd ((i_nle (a := 12) (by decide) (by decide)).mpr (Nat.le_refl _)) z⟩
    · intro v _ hv ih m j1 j2
      refine t_X7_compress_37 hG _ _ m ?_
      have tv := (t.cp1 (k := k) v).1
      have enx : cpj k S (v + 1) = bp k v (cpj k S v) := rfl
      rw [enx] at ih
      clear enx
      generalize cpj k S v = A at *
      rw [i_cl (by omega), nI_1 v, j1.1 v hv]
      refine ⟨fun z => absurd ((i_nle (a := 12) (by decide) (by omega)).mp z) (by omega), fun _ => ⟨i_in hv (by decide), fun z => ?_, fun z => ?_⟩⟩
      · rw [bp_no (bI_0.mp z)] at ih
        exact ih m j1 j2
      · have pv : A.1 v = true := Decidable.byContradiction fun q => z (bI_0.mpr q)
        refine ⟨_, c_mDegree hG j1 tv hv, ?_⟩
        rintro r m ⟨rfl, rfl⟩
        have cu := cn_up (nz A.2.1 v) 12
        refine ⟨fun z2 => ?_, fun z2 => ?_⟩
        · rw [bp_no2 (fun q => z2 (by rw [q]; rfl))] at ih
          exact ih m j1 j2
        · have h2 := (i_neq (b := 2) (by omega) (by decide)).mp z2
          have tw := nb_two h2
          have eb : ∀ a b, a = nb A.2.1 v 0 → b = nb A.2.1 v (nb A.2.1 v 0 + 1) → bp k v A = if A.2.1 v a = 1 ∧ A.2.1 v b = 1 then put2 a b (rmv k v A) else A := by
            rintro a b rfl rfl
            unfold bp
            by_cases q : A.2.1 v (nb A.2.1 v 0) = 1 ∧ A.2.1 v (nb A.2.1 v (nb A.2.1 v 0 + 1)) = 1
            · rw [if_pos q, if_pos ⟨pv, h2, q⟩]
            · rw [if_neg q, if_neg (fun z => q z.2.2)]
          replace eb := eb _ _ rfl rfl
          generalize nb A.2.1 v (nb A.2.1 v 0 + 1) = b at tw eb
          generalize nb A.2.1 v 0 = a at tw eb
          obtain ⟨n1, n2, n3, n4, n5, n6, n7⟩ := tw
          have la := tv.2.1 v a
          have lb := tv.2.1 v b
          refine ⟨_, c_mNext hG j1 tv (i := 0) (u := a) rfl hv (Nat.zero_le _) (by omega) n3 (fun x _ q => n5 x q), ?_⟩
          rintro r m ⟨rfl, rfl⟩
          refine ⟨_, c_mNext hG j1 tv (i := a + 1) (u := b) (nI_1 a) hv n1 n2 n4 (fun x q1 q2 => n6 x q1 q2), ?_⟩
          rintro r m ⟨rfl, rfl⟩
          have c1 : (12 * v + a) < 144 := by omega
          rw [i_at, i_at, i_at, i_at, i_cl (k := 12 * v + a) (by omega), i_cl (k := 12 * v + b) (by omega), i_cl (k := 12 * a + b) (by omega), i_cl (k := 12 * b + a) (by omega), j1.2.2 v a hv (by omega), j1.2.2 v b hv n2]
          have one : ∀ x, x ≤ 2 → (nI x = 1 ↔ x = 1) := fun x hx => i_neq (b := 1) (by omega) (by decide)
          refine ⟨i_in (by omega) (by decide), fun z3 => ?_, fun z3 => ⟨i_in (by omega) (by decide), fun z4 => ?_, fun z4 => ⟨_, c_mRemove hG j1 hv, ?_⟩⟩⟩
          · rw [if_neg (fun q => z3 ((one _ la).mpr q.1))] at eb
            rw [eb] at ih
            exact ih m j1 j2
          · rw [if_neg (fun q => z4 ((one _ lb).mpr q.2))] at eb
            rw [eb] at ih
            exact ih m j1 j2
          · rintro m2 ⟨g1, g2, g3⟩
            rw [if_pos ⟨(one _ la).mp z3, (one _ lb).mp z4⟩] at eb
            rw [eb] at ih
            refine ⟨i_in (by omega) (by decide), i_in (by omega) (by decide), ih _ ⟨fun x hx => ?_, fun x hx => ?_, fun x y hx hy => ?_⟩ ((j2.tr g3).wr (by omega) (by omega) |>.wr (by omega) (by omega))⟩
            · rw [wr_n (by omega), wr_n (by omega)]; exact g1.1 x hx
            · rw [wr_n (by omega), wr_n (by omega)]; exact g1.2.1 x hx
            · rw [wr_at, wr_at]
              show _ = nI (updE (rmv k v A).2.1 a b 2 x y)
              unfold updE
              by_cases q1 : 339 = 339 ∧ 12 * x + y = 12 * b + a
              · rw [if_pos q1, if_pos (by omega)]; rfl
              · rw [if_neg q1]
                by_cases q2 : 339 = 339 ∧ 12 * x + y = 12 * a + b
                · rw [if_pos q2, if_pos (by omega)]; rfl
                · rw [if_neg q2, if_neg (by omega)]
                  exact g1.2.2 x y hx hy
  · intro K _ hK ih m i1 i2
    refine t_X7_compress_2 hG _ _ m ?_
    have kin := i_in (k := K) (n := 144) hK (by decide)
    have ek : 12 * (K / 12) + K % 12 = K := by omega
    have hL := t.2.1 (K / 12) (K % 12)
    have e := i2 (K / 12) (K % 12) (by omega) (by omega)
    rw [ek, if_neg (by omega)] at e
    rw [i_cl (by omega), nI_1 K, e]
    have go : ∀ r : Int32, r = nI (min (S.2.1 (K / 12) (K % 12)) 1) → XV l M_X7_compress G (fun m => MAt m (cpj k S 12) ∧ Out 339 343 mem m) (wr m 339 K r) 2 [(0, .ref (gA G 327)), (1, .int (nI k)), (2, .int (nI (K + 1)))] [] := fun r er => by
      refine ih _ (fun a ha => by rw [wr_n ha]; exact i1 a ha) (fun x y hx hy => ?_)
      rw [wr_at, i2 x y hx hy]
      by_cases q : 12 * x + y = K
      · rw [if_pos ⟨rfl, q⟩, if_pos (by omega), er, show K / 12 = x by omega, show K % 12 = y by omega]
      · rw [if_neg (by omega)]
        by_cases q2 : 12 * x + y < K
        · rw [if_pos q2, if_pos (by omega)]
        · rw [if_neg q2, if_neg (by omega)]
    refine ⟨fun z => absurd ((i_nle (a := 144) (by decide) (by omega)).mp z) (by omega), fun _ => ⟨kin, fun z => ⟨kin, go 0 ?_⟩, fun z => ⟨kin, go 1 ?_⟩⟩⟩
    · have := (i_nle (b := 0) (by omega) (by decide)).mp z
      rw [show S.2.1 (K / 12) (K % 12) = 0 by omega]; rfl
    · have : ¬ S.2.1 (K / 12) (K % 12) ≤ 0 := fun q => z ((i_nle (b := 0) (by omega) (by decide)).mpr q)
      rw [show min (S.2.1 (K / 12) (K % 12)) 1 = 1 by omega]; rfl
end KM
