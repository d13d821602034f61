/-! observations, save slots: class and model go alike -/
section OP
variable {l : Launch} {G : Gx} {mem m m' : Mem} {n : Nat}
theorem op_observe (hG : Mn G) (I : Inv mem) (u v d : Int32) : CtI l M_X6_observe G [.ref (gA G 0), .int u, .int v, .int d] mem (fun r m => CtI l M_X7_observe G [.ref (gA G 327), .int u, .int v, .int d] m (fun r' m' => r' = r ∧ Inv m')) := by
  have I0 := I
  obtain ⟨n, ⟨h3, hsh⟩, hhi, hsl, ⟨nx, ct, us, vs, ds, ⟨b1, b2, b3, b4, b5, b6⟩, b7, b8⟩, htx⟩ := I
  have bad : ¬ Obk u v d → CtI l M_X7_observe G [.ref (gA G 327), .int u, .int v, .int d] mem (fun r' m' => r' = -2 ∧ Inv m') := by
    intro nb
    refine (c_mObs hG b4 b6).mono ?_
    rintro r m' (⟨-, q, rfl⟩ | ⟨q, -⟩)
    · exact ⟨q, I0⟩
    · exact absurd q nb
  refine CtI_of (by decide) (Nat.le_of_ble_eq_true rfl) rfl (t_X6_observe_0 hG _ _ _ mem ⟨fun z => bad (fun y => ?_), fun z1 => ⟨fun z => bad (fun y => ?_), fun z2 => ⟨fun z => bad (fun y => ?_), fun z3 => ⟨fun z4 => ⟨fun z => bad (fun y => ?_), fun z5 => ⟨fun z6 => ?_, fun z => bad (fun y => ?_)⟩⟩, fun z => bad (fun y => ?_)⟩⟩⟩⟩)
  · have := y.1; rw [i_lt, i_0] at z; omega
  · have := y.1; rw [i_le, i_12] at z; omega
  · have := y.2.1; rw [i_lt, i_0] at z; omega
  · have := y.2.2; rw [i_lt, i_0] at z; omega
  · rw [i_lt, i_0] at z1 z3 z5
    rw [i_le, i_12] at z2
    rw [i_lt, i_12] at z4
    rw [i_le, i_999] at z6
    have ok : Obk u v d := ⟨by omega, by omega, by omega⟩
    obtain ⟨u', hu, rfl⟩ : ∃ t : Nat, t < 12 ∧ u = nI t := i_arg (by omega) (by omega)
    obtain ⟨v', hv, rfl⟩ : ∃ t : Nat, t < 12 ∧ v = nI t := i_arg (by omega) (by omega)
    obtain ⟨d', hd, rfl⟩ : ∃ t : Nat, t < 1000 ∧ d = nI t := i_arg (by omega) (by omega)
    refine ⟨_, c_store hG _ _ _ b1 b3 b2 b4, ?_⟩
    rintro r m1 ⟨rfl, e1, e2, e3, e4, e5, e6⟩
    have mo : ∀ a, 327 ≤ a → m1 a = mem a := fun a h => e6 a (by omega)
    refine (c_mObs hG b4 (by rw [mo 327 (by omega)]; exact b6)).mono ?_
    rintro r m2 (⟨q, -⟩ | ⟨-, rfl, k1, k2, k3, k4⟩)
    · exact absurd ok q
    · refine ⟨rfl, n, ⟨by rw [k4 3 (by decide), mo 327 (by omega)]; exact h3, hsh.mv (fun a q1 q2 => by rw [k3 a (by omega) (by omega), e6 a (by omega)]) (fun k _ => by rw [k3 329 (by omega) (by omega), mo 329 (by omega)])⟩, ?_, ?_, ?_, ?_⟩
      · -- the forest's history
        refine hhi.mv (fun a q1 q2 => by rw [k3 a (by omega) (by omega), e6 a (by omega)]) (by rw [k3 332 (by omega) (by omega), mo 332 (by omega)]) (by rw [k4 9 (by decide), mo 327 (by omega)]) (by rw [k4 10 (by decide), mo 327 (by omega)])
      · exact hsl.mv (fun a q1 q2 => by rw [k3 a (by omega) (by omega), e6 a (by omega)]) (by rw [k3 333 (by omega) (by omega), mo 333 (by omega)]) (by rw [k3 334 (by omega) (by omega), mo 334 (by omega)])
      · have cl : ∀ a, a < 327 → m2 a = m1 a := fun a h => k3 a (by omega) (by omega)
        refine ⟨(nx + 1) % 6, min (ct + 1) 6, updW us nx u', updW vs nx v', updW ds nx d', ⟨by rw [cl 291 (by omega)]; exact e1, Nat.mod_lt _ (by decide), by rw [cl 291 (by omega)]; exact e2, Nat.min_le_right _ _, fun h => ?_, k2⟩, fun i hi => ?_, fun i hi => ?_⟩
        · have : ct < 6 := by
            rcases Nat.lt_or_ge ct 6 with q | q
            · exact q
            · rw [Nat.min_eq_right (by omega)] at h; omega
          have := b5 this
          rw [Nat.min_eq_left (by omega)] at h ⊢
          omega
        · have hi1 : i < ct + 1 := Nat.lt_of_lt_of_le hi (Nat.min_le_left _ _)
          have hi2 : i < 6 := Nat.lt_of_lt_of_le hi (Nat.min_le_right _ _)
          rw [cl 292 (by omega), cl 293 (by omega), cl 294 (by omega), e3, e4, e5]
          unfold updW upd
          by_cases e : i = nx
          · simp only [if_pos e]; exact ⟨trivial, trivial, trivial, hu, hv, hd⟩
          · simp only [if_neg e]
            refine b7 i ?_
            by_cases c : ct < 6
            · have := b5 c; omega
            · omega
        · have hi1 : i < ct + 1 := Nat.lt_of_lt_of_le hi (Nat.min_le_left _ _)
          have hi2 : i < 6 := Nat.lt_of_lt_of_le hi (Nat.min_le_right _ _)
          have q0 := k1 (3 * i) (by omega)
          have q1 := k1 (3 * i + 1) (by omega)
          have q2 := k1 (3 * i + 2) (by omega)
          by_cases c : ct < 6
          · have en := b5 c
            have em : min (ct + 1) 6 = ct + 1 := Nat.min_eq_left (by omega)
            rw [if_pos c] at q0 q1 q2
            rw [em, show ((nx + 1) % 6 + 6 - (ct + 1) + i) % 6 = i by omega, q0, q1, q2]
            unfold updW
            by_cases e : i = nx
            · rw [if_pos (show 3 * i = 3 * ct by omega), if_neg (show ¬ 3 * i + 1 = 3 * ct by omega), if_pos (show 3 * i + 1 = 3 * ct + 1 by omega), if_neg (show ¬ 3 * i + 2 = 3 * ct by omega), if_neg (show ¬ 3 * i + 2 = 3 * ct + 1 by omega), if_pos (show 3 * i + 2 = 3 * ct + 2 by omega), if_pos e, if_pos e, if_pos e]
              exact ⟨rfl, rfl, rfl⟩
            · rw [if_neg (show ¬ 3 * i = 3 * ct by omega), if_neg (show ¬ 3 * i = 3 * ct + 1 by omega), if_neg (show ¬ 3 * i = 3 * ct + 2 by omega), if_neg (show ¬ 3 * i + 1 = 3 * ct by omega), if_neg (show ¬ 3 * i + 1 = 3 * ct + 1 by omega), if_neg (show ¬ 3 * i + 1 = 3 * ct + 2 by omega), if_neg (show ¬ 3 * i + 2 = 3 * ct by omega), if_neg (show ¬ 3 * i + 2 = 3 * ct + 1 by omega), if_neg (show ¬ 3 * i + 2 = 3 * ct + 2 by omega), if_neg e, if_neg e, if_neg e, mo 335 (by omega)]
              have := b8 i (by omega)
              rw [show (nx + 6 - ct + i) % 6 = i by omega] at this
              exact this
          · have e6' : ct = 6 := by omega
            subst e6'
            have em : min (6 + 1) 6 = 6 := rfl
            rw [if_neg c] at q0 q1 q2
            rw [em, q0, q1, q2]
            unfold updW
            by_cases e : i = 5
            · have ei : ((nx + 1) % 6 + 6 - 6 + i) % 6 = nx := by omega
              rw [ei, if_neg (show ¬ 3 * i < 15 by omega), if_pos (show 3 * i = 15 by omega), if_neg (show ¬ 3 * i + 1 < 15 by omega), if_neg (show ¬ 3 * i + 1 = 15 by omega), if_pos (show 3 * i + 1 = 16 by omega), if_neg (show ¬ 3 * i + 2 < 15 by omega), if_neg (show ¬ 3 * i + 2 = 15 by omega), if_neg (show ¬ 3 * i + 2 = 16 by omega), if_pos rfl, if_pos rfl, if_pos rfl]
              exact ⟨rfl, rfl, rfl⟩
            · have ei : ((nx + 1) % 6 + 6 - 6 + i) % 6 = (nx + 6 - 6 + (i + 1)) % 6 := by omega
              have ne : ¬ (nx + 6 - 6 + (i + 1)) % 6 = nx := by omega
              rw [ei, if_pos (show 3 * i < 15 by omega), if_pos (show 3 * i + 1 < 15 by omega), if_pos (show 3 * i + 2 < 15 by omega), if_neg ne, if_neg ne, if_neg ne, mo 335 (by omega), show 3 * i + 3 = 3 * (i + 1) by omega, show 3 * i + 1 + 3 = 3 * (i + 1) + 1 by omega, show 3 * i + 2 + 3 = 3 * (i + 1) + 2 by omega]
              exact b8 (i + 1) (by omega)
      · exact htx.mv (by rw [k3 76 (by omega) (by omega), e6 76 (by omega)]) (by rw [k3 77 (by omega) (by omega), e6 77 (by omega)]) (by rw [k4 1 (by decide), mo 327 (by omega)]) (by rw [k3 328 (by omega) (by omega), mo 328 (by omega)])
  · have := y.2.2; rw [i_le, i_999] at z; omega
  · have := y.2.1; rw [i_lt, i_12] at z; omega
theorem op_save (hG : Mn G) (I : Inv mem) (x : Int32) : CtI l M_X6_save G [.ref (gA G 0), .int x] mem (fun r m => CtI l M_X7_save G [.ref (gA G 327), .int x] m (fun r' m' => r' = r ∧ Inv m')) := by
  have I0 := I
  obtain ⟨n, ⟨h3, wc, wm, E, hf, hr, hw, g⟩, hhi, hsl, hob, htx⟩ := I
  have hwm : ∀ v, v < n → wm v ≤ 99 := fun v hv => by rw [(hw v hv).1]; exact (hw v hv).2
  have Fm := g.f hwm
  have hn := g.1.2
  have bad : ¬ (0 ≤ x.toInt ∧ x.toInt ≤ 1) → CtI l M_X7_save G [.ref (gA G 327), .int x] mem (fun r' m' => r' = -1 ∧ Inv m') := fun nb => (c_mSaveNo hG nb).mono (by rintro r m' ⟨rfl, rfl⟩; exact ⟨rfl, I0⟩)
  refine CtI_of (by decide) (Nat.le_of_ble_eq_true rfl) rfl (t_X6_save_0 hG _ mem ⟨fun z => bad (fun y => ?_), fun z1 => ⟨fun z2 => ?_, fun z => bad (fun y => ?_)⟩⟩)
  · rw [i_lt, i_0] at z; omega
  · rw [i_lt, i_0] at z1
    rw [i_lt, i_2] at z2
    obtain ⟨s, hs, rfl⟩ : ∃ t : Nat, t < 2 ∧ x = nI t := i_arg (by omega) (by omega)
    rw [i_cl (by omega)]
    refine ⟨i_in (by omega) (by decide), _, c_become (Fo_slot hG hs) (f_1 hG) hf (by omega), ?_⟩
    rintro m1 ⟨e1, e2⟩
    have o1 : ∀ a, a ≠ 326 → (a < 296 + 15 * s ∨ 296 + 15 * s + 15 ≤ a) → wr m1 326 s 1 a = mem a := fun a q1 q2 => by rw [wr_n q1]; exact e2 a q2
    have v326 : ∀ j, wr m1 326 s 1 326 j = if j = s then 1 else mem 326 j := fun j => by
      rw [wr_at, e2 326 (by omega)]
      by_cases e : j = s
      · rw [if_pos ⟨rfl, e⟩, if_pos e]
      · rw [if_neg (fun z => e z.2), if_neg e]
    have hsn : FoAt (wr m1 326 s 1) (296 + 15 * s) n wc E := ⟨by rw [wr_n (by omega)]; exact e1.1, fun v hv => by rw [wr_n (by omega)]; exact e1.2.1 v hv, fun u v hu hv => by rw [wr_n (by omega)]; exact e1.2.2 u v hu hv⟩
    generalize wr m1 326 s 1 = m2 at o1 v326 hsn ⊢
    have hf2 : FoAt m2 1 n wc E := ⟨by rw [o1 _ (by omega) (by omega)]; exact hf.1, fun v hv => by rw [o1 _ (by omega) (by omega)]; exact hf.2.1 v hv, fun u v hu hv => by rw [o1 _ (by omega) (by omega)]; exact hf.2.2 u v hu hv⟩
    refine ⟨i_in (by omega) (by decide), _, c_edgeCount (f_1 hG) hf2 hn (fun u v _ _ => by have := g.2.2.1 u v; omega), ?_⟩
    rintro r m3 ⟨rfl, rfl⟩
    have mo : ∀ a, 327 ≤ a → m3 a = mem a := fun a h => o1 a (by omega) (by omega)
    have hr3 : RoAt m3 329 wm E := RoAt.eq' hr (mo 329 (by omega))
    refine (c_mSave hG (r_329 hG) hr3 Fm hs).mono ?_
    rintro r m4 ⟨rfl, k1, k2, k3⟩
    have cl : ∀ a, a ≠ 333 → a ≠ 334 → m4 a = m3 a := k3
    refine ⟨rfl, n, ⟨by rw [cl 327 (by omega) (by omega), mo 327 (by omega)]; exact h3, wc, wm, E, ⟨by rw [cl _ (by omega) (by omega)]; exact hf2.1, fun v hv => by rw [cl _ (by omega) (by omega)]; exact hf2.2.1 v hv, fun u v hu hv => by rw [cl _ (by omega) (by omega)]; exact hf2.2.2 u v hu hv⟩, hr3.eq' (cl 329 (by omega) (by omega)), hw, g⟩, ?_, ?_, ?_, ?_⟩
    · exact hhi.mv (fun a q1 q2 => by rw [cl a (by omega) (by omega), o1 a (by omega) (by omega)]) (by rw [cl 332 (by omega) (by omega), mo 332 (by omega)]) (by rw [cl 327 (by omega) (by omega), mo 327 (by omega)]) (by rw [cl 327 (by omega) (by omega), mo 327 (by omega)])
    · intro t ht
      have v334 : ∀ j, m4 334 j = if j = s then 1 else mem 334 j := fun j => by rw [k1, mo 334 (by omega)]; rfl
      rw [cl 326 (by omega) (by omega), v326, v334]
      by_cases e : t = s
      · subst e
        rw [if_pos rfl, if_pos rfl]
        refine ⟨rfl, Or.inr rfl, fun _ => ⟨wc, wm, E, ⟨by rw [cl _ (by omega) (by omega)]; exact hsn.1, fun v hv => by rw [cl _ (by omega) (by omega)]; exact hsn.2.1 v hv, fun u v hu hv => by rw [cl _ (by omega) (by omega)]; exact hsn.2.2 u v hu hv⟩, ⟨fun v hv => ?_, fun u v hu hv => ?_⟩, hw, g⟩⟩
        · show m4 333 (156 * t + v) = _
          rw [k2, if_pos (by omega), show 156 * t + v - 156 * t = v by omega]; exact hr3.1 v hv
        · show m4 333 (156 * t + (12 + 12 * u + v)) = _
          rw [k2, if_pos (by omega), show 156 * t + (12 + 12 * u + v) - 156 * t = 12 + 12 * u + v by omega]; exact hr3.2 u v hu hv
      · rw [if_neg e, if_neg e]
        obtain ⟨c1, c2, c3⟩ := hsl t ht
        refine ⟨c1, c2, fun z => (c3 z).mv (fun a q1 q2 => by rw [cl a (by omega) (by omega), o1 a (by omega) (by omega)]) (fun k hk => ?_)⟩
        show m4 333 (156 * t + k) = mem 333 (156 * t + k)
        rw [k2, if_neg (by omega), mo 333 (by omega)]
    · exact hob.mv (fun a q1 q2 => by rw [cl a (by omega) (by omega), o1 a (by omega) (by omega)]) (by rw [cl 335 (by omega) (by omega), mo 335 (by omega)]) (by rw [cl 327 (by omega) (by omega), mo 327 (by omega)])
    · exact htx.mv (by rw [cl 76 (by omega) (by omega), o1 76 (by omega) (by omega)]) (by rw [cl 77 (by omega) (by omega), o1 77 (by omega) (by omega)]) (by rw [cl 327 (by omega) (by omega), mo 327 (by omega)]) (by rw [cl 328 (by omega) (by omega), mo 328 (by omega)])
  · rw [i_lt, i_2] at z; omega
theorem op_restore (hG : Mn G) (I : Inv mem) (x : Int32) : CtI l M_X6_restore G [.ref (gA G 0), .int x] mem (fun r m => CtI l M_X7_restore G [.ref (gA G 327), .int x] m (fun r' m' => r' = r ∧ Inv m')) := by
  have I0 := I
  obtain ⟨n, ⟨h3, hsh⟩, ⟨nx, ct, ⟨x1, x2, x3⟩, -⟩, hsl, hob, htx⟩ := I
  have bad : ¬ (0 ≤ x.toInt ∧ x.toInt ≤ 1) → CtI l M_X7_restore G [.ref (gA G 327), .int x] mem (fun r' m' => r' = -1 ∧ Inv m') := fun nb => (c_mRestNo hG nb).mono (by rintro r m' ⟨rfl, rfl⟩; exact ⟨rfl, I0⟩)
  refine CtI_of (by decide) (Nat.le_of_ble_eq_true rfl) rfl (t_X6_restore_0 hG _ mem ⟨fun z => bad (fun y => ?_), fun z1 => ⟨fun z2 => ?_, fun z => bad (fun y => ?_)⟩⟩)
  · rw [i_lt, i_0] at z; omega
  · rw [i_lt, i_0] at z1
    rw [i_lt, i_2] at z2
    obtain ⟨s, hs, rfl⟩ : ∃ t : Nat, t < 2 ∧ x = nI t := i_arg (by omega) (by omega)
    have sin := i_in (k := s) (n := 2) (by omega) (by decide)
    obtain ⟨c1, c2, c3⟩ := hsl s hs
    rw [i_cl (by omega)]
    refine ⟨sin, fun z => ⟨sin, ?_⟩, fun z => ?_⟩
    · rw [c1] at z
      obtain ⟨wc, wm, E, b1, ⟨b2, b3⟩, b4, b5⟩ := c3 z
      have hn := b5.1.2
      have Fm := b5.f (w := wm) (fun v hv => by rw [(b4 v hv).1]; exact (b4 v hv).2)
      refine ⟨_, c_become (f_1 hG) (Fo_slot hG hs) b1 (by omega), ?_⟩
      rintro m1 ⟨e1, e2⟩
      refine ⟨_, c_forget hG, ?_⟩
      rintro m2 rfl
      have f2 : FoAt (wr m1 79 2 0) 1 n wc E := ⟨by rw [wr_n (by omega)]; exact e1.1, fun v hv => by rw [wr_n (by omega)]; exact e1.2.1 v hv, fun u v hu hv => by rw [wr_n (by omega)]; exact e1.2.2 u v hu hv⟩
      have o1 : ∀ a, a ≠ 79 → 16 ≤ a → wr m1 79 2 0 a = mem a := fun a q1 q2 => by rw [wr_n q1]; exact e2 a (by omega)
      have v1 : wr m1 79 2 0 79 1 = nI nx := by rw [wr_at, if_neg (by omega), e2 79 (by omega)]; exact x1
      have v2 : wr m1 79 2 0 79 2 = nI 0 := by rw [wr_at, if_pos ⟨rfl, rfl⟩]; rfl
      generalize wr m1 79 2 0 = m2 at f2 o1 v1 v2 ⊢
      refine ⟨_, c_edgeCount (f_1 hG) f2 hn (fun u v _ _ => by have := b5.2.2.1 u v; omega), ?_⟩
      rintro r m3 ⟨rfl, rfl⟩
      refine (c_mRest hG (r_329 hG) hs (by rw [o1 334 (by omega) (by omega)]; exact z) (fun v hv => ?_) (fun u v hu hv => ?_) Fm).mono ?_
      · rw [o1 333 (by omega) (by omega)]; exact b2 v hv
      · rw [o1 333 (by omega) (by omega)]; exact b3 u v hu hv
      · rintro r m4 ⟨rfl, k1, k2, k3, k4⟩
        have cl : ∀ a, a < 327 → m4 a = m3 a := fun a h => k3 a (by omega) (by omega)
        refine ⟨rfl, n, ⟨by rw [k4 3 (by decide), o1 327 (by omega) (by omega)]; exact h3, wc, wm, E, ⟨by rw [cl _ (by omega)]; exact f2.1, fun v hv => by rw [cl _ (by omega)]; exact f2.2.1 v hv, fun u v hu hv => by rw [cl _ (by omega)]; exact f2.2.2 u v hu hv⟩, k1, b4, b5⟩, ⟨nx, 0, ⟨by rw [cl 79 (by omega)]; exact v1, by rw [k4 10 (by decide), o1 327 (by omega) (by omega)]; exact x2, x3⟩, ⟨by rw [cl 79 (by omega)]; exact v2, k2, by decide⟩, fun j hj => absurd hj (Nat.not_lt_zero j)⟩, ?_, ?_, ?_⟩
        · exact hsl.mv (fun a q1 q2 => by rw [cl a (by omega), o1 a (by omega) (by omega)]) (by rw [k3 333 (by omega) (by omega), o1 333 (by omega) (by omega)]) (by rw [k3 334 (by omega) (by omega), o1 334 (by omega) (by omega)])
        · exact hob.mv (fun a q1 q2 => by rw [cl a (by omega), o1 a (by omega) (by omega)]) (by rw [k3 335 (by omega) (by omega), o1 335 (by omega) (by omega)]) (by rw [k4 14 (by decide), o1 327 (by omega) (by omega)])
        · exact htx.mv (by rw [cl 76 (by omega), o1 76 (by omega) (by omega)]) (by rw [cl 77 (by omega), o1 77 (by omega) (by omega)]) (by rw [k4 1 (by decide), o1 327 (by omega) (by omega)]) (by rw [k3 328 (by omega) (by omega), o1 328 (by omega) (by omega)])
    · exact (c_mRest0 hG hs (by rw [← c1]; exact z)).mono (by rintro r m' ⟨rfl, rfl⟩; exact ⟨rfl, I0⟩)
  · rw [i_lt, i_2] at z; omega
end OP
