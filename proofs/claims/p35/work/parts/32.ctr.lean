/-! contraction: counting, trees that lose vertices -/
def cn (p : Nat → Bool) : Nat → Nat
  | 0 => 0
  | k + 1 => cn p k + if p k = true then 1 else 0
def pm (p : Nat → Bool) (x : Nat) : Nat → Bool := fun y => p y && !(y == x)
theorem pm_t {p : Nat → Bool} {x y : Nat} : pm p x y = true ↔ p y = true ∧ y ≠ x := by simp [pm]
theorem cn_cong {p q : Nat → Bool} : ∀ {k : Nat}, (∀ x, x < k → p x = q x) → cn p k = cn q k
  | 0, _ => rfl
  | k + 1, h => by
    unfold cn
    rw [cn_cong (k := k) (fun x hx => h x (by omega)), h k (Nat.lt_succ_self k)]
theorem cn_le {p q : Nat → Bool} : ∀ {k : Nat}, (∀ x, x < k → p x = true → q x = true) → cn p k ≤ cn q k
  | 0, _ => Nat.le_refl _
  | k + 1, h => by
    have ih := cn_le (k := k) (p := p) (q := q) (fun x hx => h x (by omega))
    have h2 := h k (Nat.lt_succ_self k)
    unfold cn
    by_cases e : p k = true
    · rw [if_pos e, if_pos (h2 e)]; omega
    · rw [if_neg e]; omega
theorem cn_up (p : Nat → Bool) : ∀ k, cn p k ≤ k
  | 0 => Nat.le_refl _
  | k + 1 => by
    have ih := cn_up p k
    unfold cn
    split <;> omega
theorem cn_rm {p : Nat → Bool} {x : Nat} : ∀ {k : Nat}, x < k → p x = true → cn p k = cn (pm p x) k + 1
  | 0, h, _ => absurd h (Nat.not_lt_zero x)
  | k + 1, h, hp => by
    unfold cn
    by_cases e : x = k
    · subst e
      have h1 : cn p x = cn (pm p x) x := cn_cong (fun y hy => by
        have : (y == x) = false := by simp; omega
        simp [pm, this])
      have h2 : ¬ pm p x x = true := by rw [pm_t]; exact fun q => q.2 rfl
      rw [if_pos hp, if_neg h2, h1]
    · have ih := cn_rm (k := k) (by omega) hp
      have h2 : pm p x k = true ↔ p k = true := by rw [pm_t]; exact ⟨fun q => q.1, fun q => ⟨q, fun z => e z.symm⟩⟩
      by_cases q : p k = true
      · rw [if_pos q, if_pos (h2.mpr q)]; omega
      · rw [if_neg q, if_neg (fun z => q (h2.mp z))]; omega
theorem cn_ex {p : Nat → Bool} : ∀ {k : Nat}, 0 < cn p k → ∃ x, x < k ∧ p x = true
  | 0, h => absurd h (Nat.lt_irrefl 0)
  | k + 1, h => by
    by_cases e : p k = true
    · exact ⟨k, Nat.lt_succ_self k, e⟩
    · unfold cn at h
      rw [if_neg e] at h
      obtain ⟨x, h1, h2⟩ := cn_ex (k := k) h
      exact ⟨x, by omega, h2⟩
theorem cn_pos {p : Nat → Bool} {k x : Nat} (h : x < k) (hp : p x = true) : 0 < cn p k := by rw [cn_rm h hp]; omega
theorem cn_lt {p q : Nat → Bool} {k x : Nat} (h : ∀ y, y < k → p y = true → q y = true) (hx : x < k) (h1 : q x = true) (h2 : ¬ p x = true) : cn p k < cn q k := by
  have := cn_le (p := p) (q := pm q x) (k := k) (fun y hy hp => pm_t.mpr ⟨h y hy hp, fun e => h2 (by rw [← e]; exact hp)⟩)
  rw [cn_rm hx h1]; omega
theorem cn_2 {p : Nat → Bool} {k x y : Nat} (hx : x < k) (hy : y < k) (h1 : p x = true) (h2 : p y = true) (e : x ≠ y) : 2 ≤ cn p k := by
  have := cn_pos (p := pm p x) hy (pm_t.mpr ⟨h2, fun z => e z.symm⟩)
  rw [cn_rm hx h1]; omega
theorem cn_3 {p : Nat → Bool} {k x y z : Nat} (hx : x < k) (hy : y < k) (hz : z < k) (h1 : p x = true) (h2 : p y = true) (h3 : p z = true) (e : x ≠ y) (e2 : x ≠ z) (e3 : y ≠ z) : 3 ≤ cn p k := by
  have := cn_2 (p := pm p x) hy hz (pm_t.mpr ⟨h2, fun q => e q.symm⟩) (pm_t.mpr ⟨h3, fun q => e2 q.symm⟩) e3
  rw [cn_rm hx h1]; omega
theorem cn_other {p : Nat → Bool} {k x : Nat} (h : 2 ≤ cn p k) : ∃ y, y < k ∧ p y = true ∧ y ≠ x := by
  by_cases hx : x < k ∧ p x = true
  · rw [cn_rm hx.1 hx.2] at h
    obtain ⟨y, h1, h2⟩ := cn_ex (p := pm p x) (k := k) (by omega)
    exact ⟨y, h1, pm_t.mp h2⟩
  · obtain ⟨y, h1, h2⟩ := cn_ex (p := p) (k := k) (by omega)
    exact ⟨y, h1, h2, fun e => hx (by rw [← e]; exact ⟨h1, h2⟩)⟩
theorem cn_out {p : Nat → Bool} {n : Nat} : ∀ {k : Nat}, n ≤ k → (∀ x, n ≤ x → x < k → ¬ p x = true) → cn p k = cn p n
  | 0, h, _ => by rw [show n = 0 by omega]
  | k + 1, h, q => by
    by_cases e : n = k + 1
    · rw [e]
    · have ih := cn_out (k := k) (n := n) (p := p) (by omega) (fun x h1 h2 => q x h1 (by omega))
      rw [← ih]
      show cn p k + (if p k = true then 1 else 0) = cn p k
      rw [if_neg (q k (by omega) (by omega))]; rfl
theorem cn_pred {p q : Nat → Bool} {k : Nat} (h : ∀ x, x < k → (p x = true ↔ q x = true)) : cn p k = cn q k :=
  cn_cong (fun x hx => Bool.eq_iff_iff.mpr (h x hx))
/-- the neighbours of v -/
def nz (L : Nat → Nat → Nat) (v : Nat) : Nat → Bool := fun u => decide (0 < L v u)
theorem nz_t {L : Nat → Nat → Nat} {v u : Nat} : nz L v u = true ↔ 0 < L v u := by simp [nz]
/-- a tree, whole -/
def Tw (P : Nat → Bool) (W D : Nat → Nat → Nat) : Prop := TR (fun x => P x = true) W (fun x y => P x = true ∧ P y = true) D
section TWs
variable {P : Nat → Bool} {W D : Nat → Nat → Nat}
theorem Tw.p2 (h : Tw P W D) {x y : Nat} (q : 0 < W x y) : P x = true ∧ P y = true := TR.ed h q
/-- two leaves side by side are all -/
theorem Tw.pair (h : Tw P W D) {x y : Nat} (e : 0 < W x y) (hx : ∀ z, 0 < W x z → z = y) (hy : ∀ z, 0 < W y z → z = x) {z : Nat} (hz : P z = true) : z = x ∨ z = y := by
  have h0 := h.p2 e
  refine Decidable.byContradiction fun q => ?_
  obtain ⟨t, h1, h2⟩ := TR.a5 h (x := x) (y := z) ⟨h0.1, hz⟩ (fun z => q (Or.inl z.symm))
  have e1 := hx t h1
  subst e1
  obtain ⟨s, h3, h4⟩ := TR.a5 h (x := t) (y := z) ⟨h0.2, hz⟩ (fun z => q (Or.inr z.symm))
  have e2 := hy s h3
  subst e2
  omega
theorem Tw.nbr (h : Tw P W D) {x y : Nat} (hx : P x = true) (hy : P y = true) (e : x ≠ y) : ∃ z, 0 < W x z := by
  obtain ⟨t, h1, -⟩ := TR.a5 h (x := x) (y := y) ⟨hx, hy⟩ e
  exact ⟨t, h1⟩
/-- a vertex that is farthest from another is a leaf -/
theorem Tw.leaf (h : Tw P W D) {x y : Nat} (hx : P x = true) (hy : P y = true) (e : x ≠ y) (hf : ∀ z, P z = true → D x z ≤ D x y) : ∃ t, 0 < W y t ∧ ∀ z, 0 < W y z → z = t := by
  obtain ⟨t, h1, h2⟩ := TR.a5 h (x := y) (y := x) ⟨hy, hx⟩ (fun z => e z.symm)
  refine ⟨t, h1, fun z hz => ?_⟩
  have pz := (h.p2 hz).2
  have h3 := hf z pz
  have h4 := TR.ds h (x := x) (y := y) ⟨hx, hy⟩
  have h5 := TR.ds h (x := x) (y := z) ⟨hx, pz⟩
  rcases TR.a4' h hz (z := x) ⟨hy, hx⟩ with h6 | h6
  · exact TR.a6 h (x := y) (y := x) ⟨hy, hx⟩ hz h1 h6 h2
  · omega
theorem far_ex (p : Nat → Bool) (f : Nat → Nat) : ∀ k, 0 < cn p k → ∃ y, y < k ∧ p y = true ∧ ∀ z, z < k → p z = true → f z ≤ f y
  | 0, h => absurd h (Nat.lt_irrefl 0)
  | k + 1, h => by
    by_cases e : p k = true
    · by_cases e2 : 0 < cn p k
      · obtain ⟨y, h1, h2, h3⟩ := far_ex p f k e2
        by_cases e3 : f k ≤ f y
        · refine ⟨y, by omega, h2, fun z hz hp => ?_⟩
          rcases Nat.lt_succ_iff_lt_or_eq.mp hz with q | q
          · exact h3 z q hp
          · rw [q]; exact e3
        · refine ⟨k, by omega, e, fun z hz hp => ?_⟩
          rcases Nat.lt_succ_iff_lt_or_eq.mp hz with q | q
          · have := h3 z q hp; omega
          · rw [q]; exact Nat.le_refl _
      · refine ⟨k, by omega, e, fun z hz hp => ?_⟩
        rcases Nat.lt_succ_iff_lt_or_eq.mp hz with q | q
        · exact absurd (cn_pos q hp) e2
        · rw [q]; exact Nat.le_refl _
    · unfold cn at h
      rw [if_neg e] at h
      obtain ⟨y, h1, h2, h3⟩ := far_ex p f k h
      refine ⟨y, by omega, h2, fun z hz hp => ?_⟩
      rcases Nat.lt_succ_iff_lt_or_eq.mp hz with q | q
      · exact h3 z q hp
      · rw [q] at hp; exact absurd hp e
/-- leaves are lost -/
def lsW (W : Nat → Nat → Nat) (Q : Nat → Bool) : Nat → Nat → Nat := fun x y => if Q x = true ∧ Q y = true then W x y else 0
theorem Tw.lose (h : Tw P W D) {Q : Nat → Bool} (hQ : ∀ x, Q x = true → P x = true) (hl : ∀ m, P m = true → ¬ Q m = true → ∀ z z', 0 < W m z → 0 < W m z' → z = z') : Tw Q (lsW W Q) D := by
  have up : ∀ {x y : Nat}, 0 < lsW W Q x y → (Q x = true ∧ Q y = true) ∧ 0 < W x y ∧ lsW W Q x y = W x y := by
    intro x y q
    unfold lsW at q ⊢
    by_cases z : Q x = true ∧ Q y = true
    · rw [if_pos z] at q ⊢; exact ⟨z, q, rfl⟩
    · rw [if_neg z] at q; exact absurd q (Nat.lt_irrefl 0)
  refine ⟨fun x hx => ⟨hx, hx⟩, fun x y q => q, fun x y q => ⟨q.2, q.1⟩, fun x y z q q2 => ⟨q.1, q2.2⟩, fun x y q => (up q).1, fun x y => ?_, fun x hx => TR.d0 h (hQ x hx), fun x y q => TR.ds h ⟨hQ _ q.1, hQ _ q.2⟩, fun x y z q q2 => ?_, fun x y q e => ?_, fun x y z z' q q1 q2 q3 q4 => ?_⟩
  · have := TR.ws h x y
    unfold lsW
    by_cases z : Q x = true ∧ Q y = true
    · rw [if_pos z, if_pos ⟨z.2, z.1⟩]; exact this
    · rw [if_neg z, if_neg (fun q => z ⟨q.2, q.1⟩)]
  · obtain ⟨-, u1, u2⟩ := up q
    rw [u2]
    exact TR.a4 h u1 ⟨hQ _ q2.1, hQ _ q2.2⟩
  · have hx := hQ _ q.1
    have hy := hQ _ q.2
    obtain ⟨z, h1, h2⟩ := TR.a5 h (x := x) (y := y) ⟨hx, hy⟩ e
    have hz := (h.p2 h1).2
    have qz : Q z = true := by
      refine Decidable.byContradiction fun nq => ?_
      have ezy : z ≠ y := fun e => nq (by rw [e]; exact q.2)
      obtain ⟨t, h3, h4⟩ := TR.a5 h (x := z) (y := y) ⟨hz, hy⟩ ezy
      have e2 := hl z hz nq x t (by rw [TR.ws h]; exact h1) h3
      subst e2
      omega
    have e3 : lsW W Q x z = W x z := if_pos ⟨q.1, qz⟩
    exact ⟨z, by rw [e3]; exact h1, by rw [e3]; exact h2⟩
  · obtain ⟨-, u1, u2⟩ := up q1
    obtain ⟨-, v1, v2⟩ := up q2
    rw [u2] at q3
    rw [v2] at q4
    exact TR.a6 h (x := x) (y := y) ⟨hQ _ q.1, hQ _ q.2⟩ u1 v1 q3 q4
/-- a vertex with two neighbours is bridged -/
def brW (W : Nat → Nat → Nat) (v a b : Nat) : Nat → Nat → Nat := fun x y => if x = v ∨ y = v then 0 else if (x = a ∧ y = b) ∨ (x = b ∧ y = a) then W v a + W v b else W x y
theorem Tw.bridge (h : Tw P W D) {v a b : Nat} (ha : 0 < W v a) (hb : 0 < W v b) (hab : a ≠ b) (h2 : ∀ z, 0 < W v z → z = a ∨ z = b) : Tw (pm P v) (brW W v a b) D ∧ a ≠ v ∧ b ≠ v := by
  have hv := (h.p2 ha).1
  have pa := (h.p2 ha).2
  have pb := (h.p2 hb).2
  have av : a ≠ v := fun e => by rw [e, TR.wi h] at ha; omega
  have bv : b ≠ v := fun e => by rw [e, TR.wi h] at hb; omega
  have sva := TR.ws h v a
  have svb := TR.ws h v b
  have dv := TR.d0 h hv
  have da := TR.de h ha
  have db := TR.de h hb
  have dsa := TR.ds h (x := v) (y := a) ⟨hv, pa⟩
  have dsb := TR.ds h (x := v) (y := b) ⟨hv, pb⟩
  have wab : W a b = 0 := by
    rcases Nat.eq_zero_or_pos (W a b) with e | e
    · exact e
    · have e' : 0 < W b a := by rw [TR.ws h]; exact e
      have s := TR.ws h a b
      rcases TR.a4 h e (z := v) ⟨hv, pa⟩ with q | q
      · exact absurd (TR.a6 h (x := a) (y := v) (z := v) (z' := b) ⟨pa, hv⟩ (by omega) e (by omega) (by omega)) bv.symm
      · exact absurd (TR.a6 h (x := b) (y := v) (z := v) (z' := a) ⟨pb, hv⟩ (by omega) e' (by omega) (by omega)) av.symm
  have wba : W b a = 0 := by rw [TR.ws h]; exact wab
  have up : ∀ {x y : Nat}, 0 < brW W v a b x y → x ≠ v ∧ y ≠ v ∧ ((0 < W x y ∧ brW W v a b x y = W x y) ∨ (((x = a ∧ y = b) ∨ (x = b ∧ y = a)) ∧ brW W v a b x y = W v a + W v b)) := by
    intro x y q
    unfold brW at q ⊢
    by_cases z : x = v ∨ y = v
    · rw [if_pos z] at q; exact absurd q (Nat.lt_irrefl 0)
    · rw [if_neg z] at q ⊢
      by_cases z2 : (x = a ∧ y = b) ∨ (x = b ∧ y = a)
      · rw [if_pos z2]; exact ⟨by omega, by omega, Or.inr ⟨z2, rfl⟩⟩
      · rw [if_neg z2] at q ⊢; exact ⟨by omega, by omega, Or.inl ⟨q, rfl⟩⟩
  have keep : ∀ {x y : Nat}, x ≠ v → y ≠ v → 0 < W x y → brW W v a b x y = W x y := by
    intro x y q q2 q3
    unfold brW
    rw [if_neg (by omega), if_neg]
    rintro (⟨rfl, rfl⟩ | ⟨rfl, rfl⟩) <;> omega
  -- over v, from either side
  have side : ∀ {s t : Nat}, P s = true → P t = true → s ≠ t → 0 < W v s → 0 < W v t → (∀ z, 0 < W v z → z = s ∨ z = t) → ∀ z, P z = true → z ≠ v → D z s = D z t + (W v s + W v t) ∨ D z t = D z s + (W v s + W v t) := by
    intro s t ps pt hst hs ht hn z pz zv
    have k1 := TR.ws h v s
    have k2 := TR.ws h v t
    have c1 := TR.ds h (x := v) (y := z) ⟨hv, pz⟩
    have c2 := TR.ds h (x := s) (y := z) ⟨ps, pz⟩
    have c3 := TR.ds h (x := t) (y := z) ⟨pt, pz⟩
    have a1 := TR.a4' h hs (z := z) ⟨hv, pz⟩
    have a2 := TR.a4' h ht (z := z) ⟨hv, pz⟩
    obtain ⟨u, u1, u2⟩ := TR.a5 h (x := v) (y := z) ⟨hv, pz⟩ (fun e => zv e.symm)
    rcases a1 with a1 | a1 <;> rcases a2 with a2 | a2
    · exact absurd (TR.a6 h (x := v) (y := z) ⟨hv, pz⟩ hs ht a1 a2) hst
    · exact Or.inr (by omega)
    · exact Or.inl (by omega)
    · rcases hn u u1 with e | e <;> subst e <;> omega
  have nx : ∀ {s t y : Nat}, P s = true → P t = true → s ≠ t → 0 < W v s → 0 < W v t → (∀ z, 0 < W v z → z = s ∨ z = t) → P y = true → y ≠ v → D s y = W v s + W v t + D t y → D s y = W s v + D v y := by
    intro s t y ps pt hst hs ht hn py yv q
    have k1 := TR.ws h v s
    have a1 := TR.a4' h hs (z := y) ⟨hv, py⟩
    have a2 := TR.a4' h ht (z := y) ⟨hv, py⟩
    omega
  refine ⟨⟨fun x hx => ⟨hx, hx⟩, fun x y q => q, fun x y q => ⟨q.2, q.1⟩, fun x y z q q2 => ⟨q.1, q2.2⟩, fun x y q => ?_, fun x y => ?_, fun x hx => TR.d0 h (pm_t.mp hx).1, fun x y q => TR.ds h ⟨(pm_t.mp q.1).1, (pm_t.mp q.2).1⟩, fun x y z q q2 => ?_, fun x y q e => ?_, fun x y z z' q q1 q2 q3 q4 => ?_⟩, av, bv⟩
  · obtain ⟨u1, u2, u3⟩ := up q
    rcases u3 with ⟨u3, -⟩ | ⟨u3, -⟩
    · exact ⟨pm_t.mpr ⟨(h.p2 u3).1, u1⟩, pm_t.mpr ⟨(h.p2 u3).2, u2⟩⟩
    · rcases u3 with ⟨rfl, rfl⟩ | ⟨rfl, rfl⟩
      · exact ⟨pm_t.mpr ⟨pa, u1⟩, pm_t.mpr ⟨pb, u2⟩⟩
      · exact ⟨pm_t.mpr ⟨pb, u1⟩, pm_t.mpr ⟨pa, u2⟩⟩
  · have := TR.ws h x y
    unfold brW
    by_cases z : x = v ∨ y = v
    · rw [if_pos z, if_pos (show y = v ∨ x = v by omega)]
    · rw [if_neg z, if_neg (show ¬ (y = v ∨ x = v) by omega)]
      by_cases z2 : (x = a ∧ y = b) ∨ (x = b ∧ y = a)
      · rw [if_pos z2, if_pos (show (y = a ∧ x = b) ∨ (y = b ∧ x = a) by omega)]
      · rw [if_neg z2, if_neg (show ¬ ((y = a ∧ x = b) ∨ (y = b ∧ x = a)) by omega)]; exact this
  · obtain ⟨u1, u2, u3⟩ := up q
    have hz := pm_t.mp q2.1
    have hx := pm_t.mp q2.2
    rcases u3 with ⟨u3, u4⟩ | ⟨u3, u4⟩
    · rw [u4]; exact TR.a4 h u3 ⟨hz.1, hx.1⟩
    · rw [u4]
      have g := side pa pb hab ha hb h2 z hz.1 hz.2
      rcases u3 with ⟨rfl, rfl⟩ | ⟨rfl, rfl⟩
      · exact g
      · omega
  · have hx := pm_t.mp q.1
    have hy := pm_t.mp q.2
    obtain ⟨t, h3, h4⟩ := TR.a5 h (x := x) (y := y) ⟨hx.1, hy.1⟩ e
    by_cases tv : t = v
    · subst tv
      have h5 : 0 < W t x := by rw [TR.ws h]; exact h3
      have s := TR.ws h t x
      obtain ⟨r, h6, h7⟩ := TR.a5 h (x := t) (y := y) ⟨hv, hy.1⟩ (fun e => hy.2 e.symm)
      have rx : r ≠ x := fun e => by subst e; omega
      have e1 := h2 x h5
      have e2 := h2 r h6
      refine ⟨r, ?_⟩
      have e3 : brW W t a b x r = W t x + W t r := by
        unfold brW
        have rt : r ≠ t := fun e => by rw [e, TR.wi h] at h6; omega
        rw [if_neg (by omega), if_pos (by omega)]
        rcases e1 with e1 | e1 <;> rcases e2 with e2 | e2
        · omega
        · rw [e1, e2]
        · rw [e1, e2, Nat.add_comm]
        · omega
      rw [e3]
      exact ⟨by omega, by omega⟩
    · refine ⟨t, ?_⟩
      rw [keep hx.2 tv h3]
      exact ⟨h3, h4⟩
  · have hx := pm_t.mp q.1
    have hy := pm_t.mp q.2
    have nx2 : ∀ t, 0 < brW W v a b x t → D x y = brW W v a b x t + D t y → (0 < W x t ∧ t ≠ v ∧ D x y = W x t + D t y) ∨ (0 < W x v ∧ D x y = W x v + D v y ∧ ((x = a ∧ t = b) ∨ (x = b ∧ t = a))) := by
      intro t g1 g2
      obtain ⟨u1, u2, u3⟩ := up g1
      rcases u3 with ⟨u3, u4⟩ | ⟨u3, u4⟩
      · rw [u4] at g2; exact Or.inl ⟨u3, u2, g2⟩
      · rw [u4] at g2
        rcases u3 with ⟨rfl, rfl⟩ | ⟨rfl, rfl⟩
        · exact Or.inr ⟨by omega, nx pa pb hab ha hb h2 hy.1 hy.2 (by omega), Or.inl ⟨rfl, rfl⟩⟩
        · exact Or.inr ⟨by omega, nx pb pa hab.symm hb ha (fun z hz => (h2 z hz).symm) hy.1 hy.2 (by omega), Or.inr ⟨rfl, rfl⟩⟩
    have cxy : P x = true ∧ P y = true := ⟨hx.1, hy.1⟩
    rcases nx2 z q1 q3 with ⟨g1, g2, g3⟩ | ⟨g1, g2, g3⟩ <;> rcases nx2 z' q2 q4 with ⟨k1, k2, k3⟩ | ⟨k1, k2, k3⟩
    · exact TR.a6 h cxy g1 k1 g3 k3
    · exact absurd (TR.a6 h cxy g1 k1 g3 k2) g2
    · exact absurd (TR.a6 h cxy k1 g1 k3 g2) k2
    · omega
end TWs
