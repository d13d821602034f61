/-! the model's contraction: its parts -/
def MAt (m : Mem) (S : Cs) : Prop := (∀ x, x < 12 → m 340 x = bI (S.1 x)) ∧ (∀ x, x < 12 → m 342 x = S.2.2 x) ∧ ∀ x y, x < 12 → y < 12 → m 339 (12 * x + y) = nI (S.2.1 x y)
theorem i_at {u v : Nat} : (12 : Int32) * nI u + nI v = nI (12 * u + v) := by rw [show (12 : Int32) = nI 12 from rfl, pk_mul, nI_add]
section KM
variable {l : Launch} {G : Gx} {mem : Mem} {n k : Nat} {S : Cs}
theorem c_mDegree (hG : Mn G) (h : MAt mem S) (t : Tc n S) {v : Nat} (hv : v < 12) : CtI l M_X7_degreeOf G [.ref (gA G 327), .int (nI v)] mem (fun r m => m = mem ∧ r = nI (cn (nz S.2.1 v) 12)) := by
  refine CtI_of (by decide) (Nat.le_of_ble_eq_true rfl) rfl (t_X7_degreeOf_0 hG _ mem ?_)
  refine up_loop (P := fun u => XI l M_X7_degreeOf G _ mem 4 [(0, .ref (gA G 327)), (1, .int (nI v)), (2, .int (nI (cn (nz S.2.1 v) u))), (3, .int (nI u))] []) (n := 12) (Nat.zero_le _) ?_ ?_
  · refine t_X7_degreeOf_4 hG _ _ _ mem ?_
    exact ⟨fun _ => ⟨rfl, rfl⟩, fun z => absurd ((i_nle (a := 12) (by decide) (by decide)).mpr (Nat.le_refl _)) z⟩
  · intro u _ hu ih
    refine t_X7_degreeOf_4 hG _ _ _ mem ?_
    have hL := t.2.1 v u
    rw [i_at, i_cl (by omega), h.2.2 v u hv hu, nI_1 u]
    refine ⟨fun z => absurd ((i_nle (a := 12) (by decide) (by omega)).mp z) (by omega), fun _ => ⟨i_in (by omega) (by decide), fun z => ?_, fun z => ?_⟩⟩
    · have e : ¬ nz S.2.1 v u = true := by
        rw [nz_t]
        have := (i_nle (b := 0) (by omega) (by decide)).mp z
        omega
      have e2 : cn (nz S.2.1 v) (u + 1) = cn (nz S.2.1 v) u := by show _ + (if _ then 1 else 0) = _; rw [if_neg e]; rfl
      rw [e2] at ih
      rw [Int32.add_zero]; exact ih
    · have e : nz S.2.1 v u = true := by
        rw [nz_t]
        refine Nat.pos_of_ne_zero fun q => z ?_
        rw [q]; exact (i_nle (a := 0) (b := 0) (by decide) (by decide)).mpr (Nat.le_refl _)
      have e2 : cn (nz S.2.1 v) (u + 1) = cn (nz S.2.1 v) u + 1 := by show _ + (if _ then 1 else 0) = _; rw [if_pos e]
      rw [e2] at ih
      rw [nI_1]; exact ih
theorem c_mNext (hG : Mn G) (h : MAt mem S) (t : Tc n S) {v i u : Nat} {b : Int32} (hb : b + 1 = nI i) (hv : v < 12) (h1 : i ≤ u) (h2 : u < 12) (h3 : 0 < S.2.1 v u) (h4 : ∀ x, i ≤ x → x < u → S.2.1 v x = 0) : CtI l M_X7_neighbour G [.ref (gA G 327), .int (nI v), .int b] mem (fun r m => m = mem ∧ r = nI u) := by
  refine CtI_of (by decide) (Nat.le_of_ble_eq_true rfl) rfl (t_X7_neighbour_0 hG _ _ mem ?_)
  rw [hb]
  refine up_loop (P := fun x => XI l M_X7_neighbour G _ mem 4 [(0, .ref (gA G 327)), (1, .int (nI v)), (3, .int (nI x))] []) (n := u) h1 ?_ ?_
  · refine t_X7_neighbour_4 hG _ _ mem ?_
    have hL := t.2.1 v u
    rw [i_at, i_cl (by omega), h.2.2 v u hv h2]
    refine ⟨i_in (by omega) (by decide), fun _ => ⟨rfl, rfl⟩, fun z => ?_⟩
    have := (i_neq (b := 0) (by omega) (by decide)).mp z
    omega
  · intro x hx hu ih
    refine t_X7_neighbour_4 hG _ _ mem ?_
    rw [i_at, i_cl (by omega), h.2.2 v x hv (by omega), h4 x hx hu, nI_1 x]
    exact ⟨i_in (by omega) (by decide), fun z => absurd rfl z, fun _ => ih⟩
theorem c_mMany (hG : Mn G) (h : MAt mem S) : CtI l M_X7_many G [.ref (gA G 327)] mem (fun r m => m = mem ∧ r = nI (cn S.1 12)) := by
  refine CtI_of (by decide) (Nat.le_of_ble_eq_true rfl) rfl (t_X7_many_0 hG mem ?_)
  refine up_loop (P := fun u => XI l M_X7_many G _ mem 4 [(0, .ref (gA G 327)), (1, .int (nI (cn S.1 u))), (2, .int (nI u))] []) (n := 12) (Nat.zero_le _) ?_ ?_
  · refine t_X7_many_4 hG _ _ mem ?_
    exact ⟨fun _ => ⟨rfl, rfl⟩, fun z => absurd ((i_nle (a := 12) (by decide) (by decide)).mpr (Nat.le_refl _)) z⟩
  · intro u _ hu ih
    refine t_X7_many_4 hG _ _ mem ?_
    rw [i_cl (by omega), h.1 u hu, nI_1 u]
    refine ⟨fun z => absurd ((i_nle (a := 12) (by decide) (by omega)).mp z) (by omega), fun _ => ⟨i_in hu (by decide), fun z => ?_, fun z => ?_⟩⟩
    · have e2 : cn S.1 (u + 1) = cn S.1 u := by show _ + (if _ then 1 else 0) = _; rw [if_neg (bI_0.mp z)]; rfl
      rw [e2] at ih
      rw [Int32.add_zero]; exact ih
    · have e2 : cn S.1 (u + 1) = cn S.1 u + 1 := by show _ + (if _ then 1 else 0) = _; rw [if_pos (Decidable.byContradiction fun q => z (bI_0.mpr q))]
      rw [e2] at ih
      rw [nI_1]; exact ih
theorem c_mRemove (hG : Mn G) (h : MAt mem S) {v : Nat} (hv : v < 12) : CtV l M_X7_removeVertex G [.ref (gA G 327), .int (nI v), .int (nI k)] mem (fun m => MAt m (rmv k v S) ∧ m 341 = mem 341 ∧ Out 339 343 mem m) := by
  refine CtV_of (by decide) (Nat.le_of_ble_eq_true rfl) rfl (t_X7_removeVertex_0 hG _ _ mem ?_)
  have vin := i_in hv (by decide)
  refine ⟨vin, vin, ?_⟩
  rw [i_cl (by omega)]
  generalize em : wr (wr mem 340 v 0) 342 v (nI k) = m0
  have at0 : ∀ a b, m0 a b = if a = 342 ∧ b = v then nI k else if a = 340 ∧ b = v then 0 else mem a b := fun a b => by rw [← em, wr_at, wr_at]
  clear em
  refine up_loop (P := fun u => ∀ m : Mem, (∀ a, a ≠ 339 → m a = m0 a) → (∀ x y, x < 12 → y < 12 → m 339 (12 * x + y) = if (y = v ∧ x < u) ∨ (x = v ∧ y < u) then 0 else m0 339 (12 * x + y)) → XV l M_X7_removeVertex G _ m 16 [(0, .ref (gA G 327)), (1, .int (nI v)), (3, .int (nI u))] []) (n := 12) (Nat.zero_le _) ?_ ?_ m0 (fun _ _ => rfl) (fun x y _ _ => by rw [if_neg (by omega)])
  · intro m i1 i2
    refine t_X7_removeVertex_16 hG _ _ m ?_
    refine ⟨fun _ => ⟨⟨fun x hx => ?_, fun x hx => ?_, fun x y hx hy => ?_⟩, ?_, fun a ha => ?_⟩, fun z => absurd ((i_nle (a := 12) (by decide) (by decide)).mpr (Nat.le_refl _)) z⟩
    · rw [i1 340 (by omega), at0, if_neg (by omega)]
      show _ = bI (pm S.1 v x)
      by_cases e : x = v
      · rw [if_pos ⟨rfl, e⟩, (bI_0.mpr (fun q => (pm_t.mp q).2 e))]
      · rw [if_neg (by omega), h.1 x hx]
        have : (x == v) = false := by simp; omega
        unfold pm
        rw [this]; simp
    · rw [i1 342 (by omega), at0]
      show _ = upd S.2.2 v (nI k) x
      by_cases e : x = v
      · rw [if_pos ⟨rfl, e⟩, e, upd_s]
      · rw [if_neg (by omega), if_neg (by omega), upd_n e]; exact h.2.1 x hx
    · rw [i2 x y hx hy]
      show _ = nI (if x = v ∨ y = v then 0 else S.2.1 x y)
      by_cases e : x = v ∨ y = v
      · rw [if_pos e, if_pos (by omega)]; rfl
      · rw [if_neg e, if_neg (by omega), at0, if_neg (by omega), if_neg (by omega)]
        exact h.2.2 x y hx hy
    · funext b
      rw [i1 341 (by omega), at0, if_neg (by omega), if_neg (by omega)]
    · funext b
      rw [i1 a (by omega), at0, if_neg (by omega), if_neg (by omega)]
  · intro u _ hu ih m i1 i2
    refine t_X7_removeVertex_16 hG _ _ m ?_
    rw [i_at, i_at, i_cl (by omega), i_cl (by omega), nI_1 u]
    refine ⟨fun z => absurd ((i_nle (a := 12) (by decide) (by omega)).mp z) (by omega), fun _ => ⟨i_in (by omega) (by decide), i_in (by omega) (by decide), ih _ (fun a ha => ?_) (fun x y hx hy => ?_)⟩⟩
    · rw [wr_n ha, wr_n ha]; exact i1 a ha
    · rw [wr_at, wr_at, i2 x y hx hy]
      by_cases q1 : 339 = 339 ∧ 12 * x + y = 12 * u + v
      · rw [if_pos q1, if_pos (by omega)]
      · rw [if_neg q1]
        by_cases q2 : 339 = 339 ∧ 12 * x + y = 12 * v + u
        · rw [if_pos q2, if_pos (by omega)]
        · rw [if_neg q2]
          by_cases q3 : (y = v ∧ x < u) ∨ (x = v ∧ y < u)
          · rw [if_pos q3, if_pos (by omega)]
          · rw [if_neg q3, if_neg (by omega)]
end KM
