/-! Contraction: its parts -/
def bI (b : Bool) : Int32 := if b = true then 1 else 0
theorem bI_0 {b : Bool} : bI b = 0 ↔ ¬ b = true := by cases b <;> decide
/-- the class holds the state S -/
def CAt (m : Mem) (n : Nat) (S : Cs) : Prop := m 59 0 = nI n ∧ m 59 1 = nI (cn S.1 12) ∧ (∀ x, x < 12 → m 60 x = bI (S.1 x)) ∧ (∀ x, x < 12 → m 62 x = S.2.2 x) ∧ ∀ x, x < n → S.1 x = true → ∀ y, y < n → m (64 + x) y = nI (S.2.1 x y)
section KX
variable {l : Launch} {G : Gx} {mem : Mem} {n k : Nat} {S : Cs}
theorem c_ctVertex (hG : Mn G) (h0 : mem 59 0 = nI n) (hn : n ≤ 12) {v : Nat} (hv : v < 2147483648) : CtI l M_X0_isVertex G [.ref (gA G 59), .int (nI v)] mem (fun r m => m = mem ∧ r = if v < n then 1 else 0) := by
  refine CtI_of (by decide) (Nat.le_of_ble_eq_true rfl) rfl (t_X0_isVertex_0 hG _ mem ?_)
  rw [h0]
  refine ⟨fun z => ?_, fun _ => ⟨fun z => ⟨rfl, ?_⟩, fun z => ⟨rfl, ?_⟩⟩⟩
  · rw [i_lt, i_nI hv, i_0] at z; omega
  · rw [i_nle (by omega) hv] at z
    rw [if_neg (by omega)]
  · rw [i_nle (by omega) hv] at z
    rw [if_pos (by omega)]
theorem c_ctDegree (hG : Mn G) (h : CAt mem n S) (t : Tc n S) {v : Nat} (hv : S.1 v = true) : CtI l M_X0_degreeOf G [.ref (gA G 59), .int (nI v)] mem (fun r m => m = mem ∧ r = nI (cn (nz S.2.1 v) 12)) := by
  have hn := t.2.2.2
  have vn := t.2.2.1 v hv
  refine CtI_of (by decide) (Nat.le_of_ble_eq_true rfl) rfl (t_X0_degreeOf_0 hG _ mem ?_)
  refine up_loop (P := fun u => XI l M_X0_degreeOf G _ mem 4 [(0, .ref (gA G 59)), (1, .int (nI v)), (2, .int (nI (cn (nz S.2.1 v) u))), (3, .int (nI u))] []) (n := n) (Nat.zero_le _) ?_ ?_
  · refine t_X0_degreeOf_4 hG _ _ _ mem ?_
    rw [h.1, t.dg]
    exact ⟨fun _ => ⟨rfl, rfl⟩, fun z => absurd ((i_nle (by omega) (by omega)).mpr (Nat.le_refl _)) z⟩
  · intro u _ hu ih
    refine t_X0_degreeOf_4 hG _ _ _ mem ?_
    have hL := t.2.1 v u
    rw [h.1, i_cl (by omega), i_cl (by omega), h.2.2.2.2 v vn hv u hu]
    refine ⟨fun z => absurd ((i_nle (by omega) (by omega)).mp z) (by omega), fun _ => ⟨i_in (by omega) (by decide), i_in (by omega) (by decide), fun z => ?_, fun z => ?_⟩⟩
    · have e : ¬ nz S.2.1 v u = true := by
        rw [nz_t]
        have := (i_neq (b := 0) (by omega) (by decide)).mp z
        omega
      have e2 : cn (nz S.2.1 v) (u + 1) = cn (nz S.2.1 v) u := by show _ + (if _ then 1 else 0) = _; rw [if_neg e]; rfl
      rw [e2] at ih
      rw [nI_1]; exact ih
    · have e : nz S.2.1 v u = true := by
        rw [nz_t]
        refine Nat.pos_of_ne_zero fun q => z ?_
        rw [q]; rfl
      have e2 : cn (nz S.2.1 v) (u + 1) = cn (nz S.2.1 v) u + 1 := by show _ + (if _ then 1 else 0) = _; rw [if_pos e]
      rw [e2] at ih
      rw [nI_1, nI_1]; exact ih
theorem c_ctNext (hG : Mn G) (h : CAt mem n S) (t : Tc n S) {v i u : Nat} {b : Int32} (hb : b + 1 = nI i) (hv : S.1 v = true) (h1 : i ≤ u) (h2 : u < n) (h3 : 0 < S.2.1 v u) (h4 : ∀ x, i ≤ x → x < u → S.2.1 v x = 0) : CtI l M_X0_neighbourAfter G [.ref (gA G 59), .int (nI v), .int b] mem (fun r m => m = mem ∧ r = nI u) := by
  have hn := t.2.2.2
  have vn := t.2.2.1 v hv
  refine CtI_of (by decide) (Nat.le_of_ble_eq_true rfl) rfl (t_X0_neighbourAfter_0 hG _ _ mem ?_)
  rw [hb]
  refine up_loop (P := fun x => XI l M_X0_neighbourAfter G _ mem 4 [(0, .ref (gA G 59)), (1, .int (nI v)), (3, .int (nI x))] []) (n := u) h1 ?_ ?_
  · refine t_X0_neighbourAfter_4 hG _ _ mem ?_
    have hL := t.2.1 v u
    rw [h.1, i_cl (by omega), i_cl (by omega), h.2.2.2.2 v vn hv u h2]
    refine ⟨fun z => absurd ((i_nle (by omega) (by omega)).mp z) (by omega), fun _ => ⟨fun z => ?_, fun _ => ⟨i_in (by omega) (by decide), i_in (by omega) (by decide), fun z => ?_, fun _ => ⟨rfl, rfl⟩⟩⟩⟩
    · rw [i_lt, i_nI (by omega), i_0] at z; omega
    · have := (i_neq (b := 0) (by omega) (by decide)).mp z
      omega
  · intro x hx hu ih
    refine t_X0_neighbourAfter_4 hG _ _ mem ?_
    rw [h.1, i_cl (by omega), i_cl (by omega), h.2.2.2.2 v vn hv x (by omega), h4 x hx hu, nI_1]
    refine ⟨fun z => absurd ((i_nle (by omega) (by omega)).mp z) (by omega), fun _ => ⟨fun z => ?_, fun _ => ⟨i_in (by omega) (by decide), i_in (by omega) (by decide), fun _ => ih, fun z => absurd rfl z⟩⟩⟩
    rw [i_lt, i_nI (by omega), i_0] at z; omega
theorem c_ctRemove (hG : Mn G) (h : CAt mem n S) (hn : n ≤ 12) (hk : mem 59 2 = nI k) {v : Nat} (hv : S.1 v = true) (vn : v < n) : CtV l M_X0_remove G [.ref (gA G 59), .int (nI v)] mem (fun m => CAt m n (rmv k v S) ∧ m 59 2 = nI k ∧ m 61 = mem 61 ∧ Out 59 76 mem m) := by
  refine CtV_of (by decide) (Nat.le_of_ble_eq_true rfl) rfl (t_X0_remove_0 hG _ mem ?_)
  have vin := i_in (k := v) (n := 12) (by omega) (by decide)
  refine ⟨vin, vin, ?_⟩
  rw [i_cl (by omega)]
  have e1 : wr mem 60 v 0 59 2 = nI k := by rw [wr_at, if_neg (by omega)]; exact hk
  have hc := cn_rm (p := S.1) (x := v) (k := 12) (by omega) hv
  have hu := cn_up S.1 12
  have e2 : wr (wr mem 60 v 0) 62 v (wr mem 60 v 0 59 2) 59 1 - 1 = nI (cn (pm S.1 v) 12) := by
    rw [wr_at, if_neg (by omega), wr_at, if_neg (by omega), h.2.1, show (1 : Int32) = nI 1 from rfl, pk_sub (by omega), hc]; rfl
  rw [e2, e1]
  generalize em : wr (wr (wr mem 60 v 0) 62 v (nI k)) 59 1 (nI (cn (pm S.1 v) 12)) = m0
  have at0 : ∀ a b, m0 a b = if a = 59 ∧ b = 1 then nI (cn (pm S.1 v) 12) else if a = 62 ∧ b = v then nI k else if a = 60 ∧ b = v then 0 else mem a b := fun a b => by rw [← em, wr_at, wr_at, wr_at]
  clear em
  refine up_loop (P := fun u => ∀ m : Mem, (∀ a, a < 64 ∨ 76 ≤ a → m a = m0 a) → (∀ x y, x < n → y < n → m (64 + x) y = if (y = v ∧ x < u) ∨ (x = v ∧ y < u) then 0 else m0 (64 + x) y) → XV l M_X0_remove G _ m 29 [(0, .ref (gA G 59)), (1, .int (nI v)), (2, .int (nI u))] []) (n := n) (Nat.zero_le _) ?_ ?_ m0 (fun _ _ => rfl) (fun x y _ _ => by rw [if_neg (by omega)])
  · intro m i1 i2
    refine t_X0_remove_29 hG _ _ m ?_
    have b0 : m 59 0 = nI n := by rw [i1 59 (by omega), at0, if_neg (by omega), if_neg (by omega), if_neg (by omega)]; exact h.1
    rw [b0]
    refine ⟨fun _ => ⟨⟨b0, ?_, fun x hx => ?_, fun x hx => ?_, fun x hx px y hy => ?_⟩, ?_, ?_, fun a ha => ?_⟩, fun z => absurd ((i_nle (by omega) (by omega)).mpr (Nat.le_refl _)) z⟩
    · rw [i1 59 (by omega), at0, if_pos ⟨rfl, rfl⟩]; rfl
    · rw [i1 60 (by omega), at0, if_neg (by omega), if_neg (by omega)]
      show _ = bI (pm S.1 v x)
      by_cases e : x = v
      · rw [if_pos ⟨rfl, e⟩, (bI_0.mpr (fun q => (pm_t.mp q).2 e))]
      · rw [if_neg (by omega), h.2.2.1 x hx]
        have : (x == v) = false := by simp; omega
        unfold pm
        rw [this]; simp
    · rw [i1 62 (by omega), at0, if_neg (by omega)]
      show _ = upd S.2.2 v (nI k) x
      by_cases e : x = v
      · rw [if_pos ⟨rfl, e⟩, e, upd_s]
      · rw [if_neg (by omega), if_neg (by omega), upd_n e]; exact h.2.2.2.1 x hx
    · have px := pm_t.mp px
      rw [i2 x y hx hy]
      show _ = nI (if x = v ∨ y = v then 0 else S.2.1 x y)
      by_cases e : x = v ∨ y = v
      · rw [if_pos e, if_pos (by omega)]; rfl
      · rw [if_neg e, if_neg (by omega), at0, if_neg (by omega), if_neg (by omega), if_neg (by omega)]
        exact h.2.2.2.2 x hx px.1 y hy
    · rw [i1 59 (by omega), at0, if_neg (by omega), if_neg (by omega), if_neg (by omega)]; exact hk
    · funext b
      rw [i1 61 (by omega), at0, if_neg (by omega), if_neg (by omega), if_neg (by omega)]
    · funext b
      rw [i1 a (by omega), at0, if_neg (by omega), if_neg (by omega), if_neg (by omega)]
  · intro u _ hu ih m i1 i2
    refine t_X0_remove_29 hG _ _ m ?_
    have b0 : m 59 0 = nI n := by rw [i1 59 (by omega), at0, if_neg (by omega), if_neg (by omega), if_neg (by omega)]; exact h.1
    have uin := i_in (k := u) (n := 12) (by omega) (by decide)
    rw [b0, i_cl (by omega), i_cl (by omega), nI_1]
    refine ⟨fun z => absurd ((i_nle (by omega) (by omega)).mp z) (by omega), fun _ => ⟨uin, vin, vin, uin, ih _ (fun a ha => ?_) (fun x y hx hy => ?_)⟩⟩
    · rw [wr_n (by omega), wr_n (by omega)]; exact i1 a ha
    · rw [wr_at, wr_at, i2 x y hx hy]
      by_cases q1 : 64 + x = 64 + v ∧ y = u
      · rw [if_pos q1, if_pos (by omega)]
      · rw [if_neg q1]
        by_cases q2 : 64 + x = 64 + u ∧ y = v
        · rw [if_pos q2, if_pos (by omega)]
        · rw [if_neg q2]
          by_cases q3 : (y = v ∧ x < u) ∨ (x = v ∧ y < u)
          · rw [if_pos q3, if_pos (by omega)]
          · rw [if_neg q3, if_neg (by omega)]
theorem c_ctOld (hG : Mn G) (h : CAt mem n S) (t : Tc n S) : CtV l M_X0_makeEdgesOld G [.ref (gA G 59)] mem (fun m => CAt m n (oldS S) ∧ m 59 2 = mem 59 2 ∧ Out 59 76 mem m) := by
  have hn := t.2.2.2
  have fin : ∀ m : Mem, (∀ a, a < 64 ∨ 76 ≤ a → m a = mem a) → (∀ x y, x < n → y < n → m (64 + x) y = if (1 : Int32) < mem (64 + x) y then 1 else mem (64 + x) y) → CAt m n (oldS S) ∧ m 59 2 = mem 59 2 ∧ Out 59 76 mem m := fun m i1 i2 => by
    refine ⟨⟨by rw [i1 59 (by omega)]; exact h.1, by rw [i1 59 (by omega)]; exact h.2.1, fun x hx => by rw [i1 60 (by omega)]; exact h.2.2.1 x hx, fun x hx => by rw [i1 62 (by omega)]; exact h.2.2.2.1 x hx, fun x hx px y hy => ?_⟩, by rw [i1 59 (by omega)], fun a ha => i1 a (by omega)⟩
    have hL := t.2.1 x y
    rw [i2 x y hx hy, h.2.2.2.2 x hx px y hy, show (1 : Int32) = nI 1 from rfl, i_min (a := 1) (by decide) (by omega), Nat.min_comm]
    rfl
  refine CtV_of (by decide) (Nat.le_of_ble_eq_true rfl) rfl (t_X0_makeEdgesOld_0 hG mem ?_)
  refine up_loop (P := fun u => ∀ m : Mem, (∀ a, a < 64 ∨ 76 ≤ a → m a = mem a) → (∀ x y, x < n → y < n → m (64 + x) y = if x < u then (if (1 : Int32) < mem (64 + x) y then 1 else mem (64 + x) y) else mem (64 + x) y) → XV l M_X0_makeEdgesOld G _ m 2 [(0, .ref (gA G 59)), (1, .int (nI u))] []) (n := n) (Nat.zero_le _) ?_ ?_ mem (fun _ _ => rfl) (fun x y _ _ => by rw [if_neg (by omega)])
  · intro m i1 i2
    refine t_X0_makeEdgesOld_2 hG _ m ?_
    have b0 : m 59 0 = nI n := by rw [i1 59 (by omega)]; exact h.1
    rw [b0]
    exact ⟨fun _ => fin m i1 (fun x y hx hy => by rw [i2 x y hx hy, if_pos hx]), fun z => absurd ((i_nle (by omega) (by omega)).mpr (Nat.le_refl _)) z⟩
  · intro u _ hu ih m i1 i2
    refine t_X0_makeEdgesOld_2 hG _ m ?_
    have b0 : m 59 0 = nI n := by rw [i1 59 (by omega)]; exact h.1
    rw [b0]
    refine ⟨fun z => absurd ((i_nle (by omega) (by omega)).mp z) (by omega), fun _ => ?_⟩
    refine up_loop (P := fun v => ∀ m : Mem, (∀ a, a < 64 ∨ 76 ≤ a → m a = mem a) → (∀ x y, x < n → y < n → m (64 + x) y = if x < u ∨ (x = u ∧ y < v) then (if (1 : Int32) < mem (64 + x) y then 1 else mem (64 + x) y) else mem (64 + x) y) → XV l M_X0_makeEdgesOld G _ m 12 [(0, .ref (gA G 59)), (1, .int (nI u)), (2, .int (nI v))] []) (n := n) (Nat.zero_le _) ?_ ?_ m i1 (fun x y hx hy => ?_)
    · intro m i1 i2
      refine t_X0_makeEdgesOld_12 hG _ _ m ?_
      have b0 : m 59 0 = nI n := by rw [i1 59 (by omega)]; exact h.1
      rw [b0, nI_1]
      refine ⟨fun _ => ih m i1 (fun x y hx hy => ?_), fun z => absurd ((i_nle (by omega) (by omega)).mpr (Nat.le_refl _)) z⟩
      rw [i2 x y hx hy]
      have : (x < u ∨ (x = u ∧ y < n)) ↔ x < u + 1 := by omega
      simp only [this]
    · intro v _ hv ih2 m i1 i2
      refine t_X0_makeEdgesOld_12 hG _ _ m ?_
      have uin := i_in (k := u) (n := 12) (by omega) (by decide)
      have win := i_in (k := v) (n := 12) (by omega) (by decide)
      have b0 : m 59 0 = nI n := by rw [i1 59 (by omega)]; exact h.1
      rw [b0, i_cl (by omega), i_cl (by omega), nI_1 v, i2 u v hu hv, if_neg (show ¬ (u < u ∨ (u = u ∧ v < v)) by omega)]
      refine ⟨fun z => absurd ((i_nle (by omega) (by omega)).mp z) (by omega), fun _ => ⟨uin, uin, win, win, ih2 _ (fun a ha => ?_) (fun x y hx hy => ?_)⟩⟩
      · rw [wr_n (by omega)]; exact i1 a ha
      · rw [wr_at, i2 x y hx hy]
        by_cases q : 64 + x = 64 + u ∧ y = v
        · obtain ⟨q1, q2⟩ := q
          have q3 : x = u := by omega
          subst q3; subst q2
          rw [if_pos ⟨rfl, rfl⟩, if_pos (show x < x ∨ (x = x ∧ y < y + 1) by omega)]
        · rw [if_neg q]
          by_cases q2 : x < u ∨ (x = u ∧ y < v)
          · rw [if_pos q2, if_pos (show x < u ∨ (x = u ∧ y < v + 1) by omega)]
          · rw [if_neg q2, if_neg (show ¬ (x < u ∨ (x = u ∧ y < v + 1)) by omega)]
    · rw [i2 x y hx hy]
      have : (x < u ∨ (x = u ∧ y < 0)) ↔ x < u := by omega
      simp only [this]
end KX
