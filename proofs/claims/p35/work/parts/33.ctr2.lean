/-! contraction: the rounds -/
abbrev Cs := (Nat → Bool) × (Nat → Nat → Nat) × (Nat → Int32)
def rmv (k v : Nat) (S : Cs) : Cs := (pm S.1 v, fun x y => if x = v ∨ y = v then 0 else S.2.1 x y, upd S.2.2 v (nI k))
def mk (S : Cs) (v : Nat) : Bool := S.1 v && (if cn S.1 12 = 2 then decide (cn (fun u => S.1 u && decide (v < u)) 12 = 0) else decide (cn (nz S.2.1 v) 12 = 1))
def rkj (k : Nat) (S : Cs) : Nat → Cs
  | 0 => S
  | j + 1 => if mk S j = true then rmv k j (rkj k S j) else rkj k S j
def oldS (S : Cs) : Cs := (S.1, fun x y => min (S.2.1 x y) 1, S.2.2)
def fn (p : Nat → Bool) : Nat → Nat → Nat
  | 0, i => i
  | d + 1, i => if p i = true then i else fn p d (i + 1)
def nb (L : Nat → Nat → Nat) (v i : Nat) : Nat := fn (nz L v) (12 - i) i
def put2 (a b : Nat) (S : Cs) : Cs := (S.1, updE S.2.1 a b 2, S.2.2)
def bp (k v : Nat) (S : Cs) : Cs :=
  if S.1 v = true ∧ cn (nz S.2.1 v) 12 = 2 ∧ S.2.1 v (nb S.2.1 v 0) = 1 ∧ S.2.1 v (nb S.2.1 v (nb S.2.1 v 0 + 1)) = 1 then
    put2 (nb S.2.1 v 0) (nb S.2.1 v (nb S.2.1 v 0 + 1)) (rmv k v S)
  else S
def cpj (k : Nat) (S : Cs) : Nat → Cs
  | 0 => oldS S
  | j + 1 => bp k j (cpj k S j)
def rnd (k : Nat) (S : Cs) : Cs := cpj k (rkj k S 12) 12
def StC (S : Cs) : Nat → Cs
  | 0 => S
  | j + 1 => rnd (j + 1) (StC S j)
def Fin1 (S : Cs) (T : Nat) : Prop := (∀ j, j < T → 2 ≤ cn (StC S j).1 12) ∧ cn (StC S T).1 12 ≤ 1
theorem Fin1.uq {S : Cs} {T T' : Nat} (h : Fin1 S T) (h' : Fin1 S T') : T = T' := by
  rcases Nat.lt_trichotomy T T' with q | q | q
  · have := h'.1 T q; have := h.2; omega
  · exact q
  · have := h.1 T' q; have := h'.2; omega
def Tc (n : Nat) (S : Cs) : Prop := (∃ W D, Tw S.1 W D ∧ ∀ x y, 0 < S.2.1 x y ↔ 0 < W x y) ∧ (∀ x y, S.2.1 x y ≤ 2) ∧ (∀ x, S.1 x = true → x < n) ∧ n ≤ 12
section CT
variable {n k : Nat} {S : Cs}
theorem Tc.lt (h : Tc n S) {x : Nat} (q : S.1 x = true) : x < 12 := by have := h.2.2.1 x q; have := h.2.2.2; omega
theorem Tc.e (h : Tc n S) {x y : Nat} (q : 0 < S.2.1 x y) : S.1 x = true ∧ S.1 y = true := by
  obtain ⟨⟨W, D, h1, h2⟩, -⟩ := h
  exact h1.p2 ((h2 x y).mp q)
theorem Tc.e0 (h : Tc n S) {x y : Nat} (q : ¬ (S.1 x = true ∧ S.1 y = true)) : S.2.1 x y = 0 := by
  rcases Nat.eq_zero_or_pos (S.2.1 x y) with e | e
  · exact e
  · exact absurd (h.e e) q
theorem Tc.dg (h : Tc n S) (v : Nat) : cn (nz S.2.1 v) 12 = cn (nz S.2.1 v) n := cn_out h.2.2.2 (fun x h1 _ q => by
  have := h.2.2.1 x (h.e (nz_t.mp q)).2
  omega)
theorem Tc.ct (h : Tc n S) : cn S.1 12 = cn S.1 n := cn_out h.2.2.2 (fun x h1 _ q => by
  have := h.2.2.1 x q
  omega)
theorem fn_ok {p : Nat → Bool} : ∀ {d i u : Nat}, i ≤ u → u < i + d → p u = true → (∀ x, i ≤ x → x < u → ¬ p x = true) → fn p d i = u
  | 0, i, u, h1, h2, _, _ => by omega
  | d + 1, i, u, h1, h2, h3, h4 => by
    unfold fn
    by_cases e : i = u
    · subst e; rw [if_pos h3]
    · rw [if_neg (h4 i (Nat.le_refl _) (by omega))]
      exact fn_ok (by omega) (by omega) h3 (fun x q1 q2 => h4 x (by omega) q2)
theorem fn_ex {p : Nat → Bool} : ∀ {d i : Nat}, (∃ u, i ≤ u ∧ u < i + d ∧ p u = true) → i ≤ fn p d i ∧ fn p d i < i + d ∧ p (fn p d i) = true ∧ ∀ x, i ≤ x → x < fn p d i → ¬ p x = true
  | 0, i, h => by obtain ⟨u, h1, h2, -⟩ := h; omega
  | d + 1, i, h => by
    unfold fn
    by_cases e : p i = true
    · rw [if_pos e]; exact ⟨Nat.le_refl _, by omega, e, fun x h1 h2 => by omega⟩
    · rw [if_neg e]
      obtain ⟨u, h1, h2, h3⟩ := h
      have hu : i ≠ u := fun q => e (by rw [q]; exact h3)
      obtain ⟨g1, g2, g3, g4⟩ := fn_ex (p := p) (d := d) (i := i + 1) ⟨u, by omega, by omega, h3⟩
      refine ⟨by omega, by omega, g3, fun x q1 q2 => ?_⟩
      by_cases ex : x = i
      · rw [ex]; exact e
      · exact g4 x (by omega) q2
theorem nb_ok {L : Nat → Nat → Nat} {v i u : Nat} (h1 : i ≤ u) (h2 : u < 12) (h3 : 0 < L v u) (h4 : ∀ x, i ≤ x → x < u → L v x = 0) : nb L v i = u :=
  fn_ok h1 (by omega) (nz_t.mpr h3) (fun x q1 q2 z => by have := nz_t.mp z; have := h4 x q1 q2; omega)
/-- the two neighbours -/
theorem nb_two {L : Nat → Nat → Nat} {v : Nat} (h : cn (nz L v) 12 = 2) : nb L v 0 < nb L v (nb L v 0 + 1) ∧ nb L v (nb L v 0 + 1) < 12 ∧ 0 < L v (nb L v 0) ∧ 0 < L v (nb L v (nb L v 0 + 1)) ∧ (∀ x, x < nb L v 0 → L v x = 0) ∧ (∀ x, nb L v 0 < x → x < nb L v (nb L v 0 + 1) → L v x = 0) ∧ ∀ z, z < 12 → 0 < L v z → z = nb L v 0 ∨ z = nb L v (nb L v 0 + 1) := by
  obtain ⟨x, x1, x2⟩ := cn_ex (p := nz L v) (k := 12) (by omega)
  have A := fn_ex (p := nz L v) (d := 12 - 0) (i := 0) ⟨x, by omega, by omega, x2⟩
  obtain ⟨a1, a2, a3, a4⟩ := A
  change _ ≤ nb L v 0 at a1
  change nb L v 0 < _ at a2
  change nz L v (nb L v 0) = true at a3
  change ∀ x, 0 ≤ x → x < nb L v 0 → _ at a4
  generalize nb L v 0 = a at a1 a2 a3 a4 ⊢
  obtain ⟨y, y1, y2, y3⟩ := cn_other (p := nz L v) (x := a) (k := 12) (by omega)
  have ya : a < y := by
    rcases Nat.lt_trichotomy y a with q | q | q
    · exact absurd y2 (a4 y (by omega) q)
    · exact absurd q y3
    · exact q
  have B := fn_ex (p := nz L v) (d := 12 - (a + 1)) (i := a + 1) ⟨y, by omega, by omega, y2⟩
  obtain ⟨b1, b2, b3, b4⟩ := B
  change _ ≤ nb L v (a + 1) at b1
  change nb L v (a + 1) < _ at b2
  change nz L v (nb L v (a + 1)) = true at b3
  change ∀ x, a + 1 ≤ x → x < nb L v (a + 1) → _ at b4
  generalize nb L v (a + 1) = b at b1 b2 b3 b4 ⊢
  have z0 : ∀ x, ¬ nz L v x = true → L v x = 0 := fun x q => by
    rcases Nat.eq_zero_or_pos (L v x) with e | e
    · exact e
    · exact absurd (nz_t.mpr e) q
  refine ⟨by omega, by omega, nz_t.mp a3, nz_t.mp b3, fun x hx => z0 x (a4 x (by omega) hx), fun x h1 h2 => z0 x (b4 x (by omega) h2), fun z hz q => ?_⟩
  refine Decidable.byContradiction fun ne => ?_
  have := cn_3 (p := nz L v) (k := 12) (x := a) (y := b) (z := z) (by omega) (by omega) hz a3 b3 (nz_t.mpr q) (by omega) (by omega) (by omega)
  omega
theorem cn_one {p : Nat → Bool} {k t : Nat} (h : t < k) (hp : p t = true) (q : ∀ z, z < k → p z = true → z = t) : cn p k = 1 := by
  rw [cn_rm h hp]
  rcases Nat.eq_zero_or_pos (cn (pm p t) k) with e | e
  · omega
  · obtain ⟨z, h1, h2⟩ := cn_ex e
    have h3 := pm_t.mp h2
    exact absurd (q z h1 h3.1) h3.2
theorem rkj_1 (x : Nat) : ∀ j, (rkj k S j).1 x = true ↔ S.1 x = true ∧ ¬ (x < j ∧ mk S x = true)
  | 0 => ⟨fun h => ⟨h, fun z => by omega⟩, fun h => h.1⟩
  | j + 1 => by
    have ih := rkj_1 x j
    unfold rkj
    by_cases e : mk S j = true
    · rw [if_pos e]
      show pm _ j x = true ↔ _
      rw [pm_t, ih]
      refine ⟨fun ⟨⟨h1, h2⟩, h3⟩ => ⟨h1, fun z => h2 ⟨by omega, z.2⟩⟩, fun ⟨h1, h2⟩ => ⟨⟨h1, fun z => h2 ⟨by omega, z.2⟩⟩, fun z => h2 ⟨by omega, by rw [z]; exact e⟩⟩⟩
    · rw [if_neg e, ih]
      refine ⟨fun ⟨h1, h2⟩ => ⟨h1, fun z => ?_⟩, fun ⟨h1, h2⟩ => ⟨h1, fun z => h2 ⟨by omega, z.2⟩⟩⟩
      by_cases ex : x = j
      · exact e (by rw [← ex]; exact z.2)
      · exact h2 ⟨by omega, z.2⟩
theorem rkj_2 (x y : Nat) : ∀ j, (rkj k S j).2.1 x y = if (x < j ∧ mk S x = true) ∨ (y < j ∧ mk S y = true) then 0 else S.2.1 x y
  | 0 => by rw [if_neg (by omega)]; rfl
  | j + 1 => by
    have ih := rkj_2 x y j
    have lt : ∀ z, z < j + 1 ↔ z < j ∨ z = j := fun z => by omega
    unfold rkj
    by_cases e : mk S j = true
    · rw [if_pos e]
      show (if x = j ∨ y = j then 0 else (rkj k S j).2.1 x y) = _
      rw [ih]
      by_cases q : x = j ∨ y = j
      · rw [if_pos q, if_pos]
        rcases q with q | q
        · exact Or.inl ⟨by omega, by rw [q]; exact e⟩
        · exact Or.inr ⟨by omega, by rw [q]; exact e⟩
      · rw [if_neg q]
        have a1 : x < j + 1 ↔ x < j := by omega
        have a2 : y < j + 1 ↔ y < j := by omega
        simp only [a1, a2]
    · rw [if_neg e, ih]
      have a1 : (x < j + 1 ∧ mk S x = true) ↔ (x < j ∧ mk S x = true) := ⟨fun z => ⟨by
        rcases (lt x).mp z.1 with q | q
        · exact q
        · exact absurd (by rw [← q]; exact z.2) e, z.2⟩, fun z => ⟨by omega, z.2⟩⟩
      have a2 : (y < j + 1 ∧ mk S y = true) ↔ (y < j ∧ mk S y = true) := ⟨fun z => ⟨by
        rcases (lt y).mp z.1 with q | q
        · exact q
        · exact absurd (by rw [← q]; exact z.2) e, z.2⟩, fun z => ⟨by omega, z.2⟩⟩
      simp only [a1, a2]
theorem mk_P {x : Nat} (h : mk S x = true) : S.1 x = true := by
  unfold mk at h
  simp only [Bool.and_eq_true] at h
  exact h.1
theorem mk_2 {x : Nat} (e : cn S.1 12 = 2) : mk S x = true ↔ S.1 x = true ∧ ∀ u, u < 12 → x < u → ¬ S.1 u = true := by
  unfold mk
  rw [if_pos e]
  simp only [Bool.and_eq_true, decide_eq_true_eq]
  refine ⟨fun ⟨h1, h2⟩ => ⟨h1, fun u u1 u2 u3 => ?_⟩, fun ⟨h1, h2⟩ => ⟨h1, ?_⟩⟩
  · have := cn_pos (p := fun u => S.1 u && decide (x < u)) u1 (by simp only [Bool.and_eq_true, decide_eq_true_eq]; exact ⟨u3, u2⟩)
    omega
  · rcases Nat.eq_zero_or_pos (cn (fun u => S.1 u && decide (x < u)) 12) with q | q
    · exact q
    · obtain ⟨u, u1, u2⟩ := cn_ex q
      simp only [Bool.and_eq_true, decide_eq_true_eq] at u2
      exact absurd u2.1 (h2 u u1 u2.2)
theorem mk_3 {x : Nat} (e : cn S.1 12 ≠ 2) : mk S x = true ↔ S.1 x = true ∧ cn (nz S.2.1 x) 12 = 1 := by
  unfold mk
  rw [if_neg e]
  simp only [Bool.and_eq_true, decide_eq_true_eq]
theorem Tc.rk (h : Tc n S) (h2 : 2 ≤ cn S.1 12) : Tc n (rkj k S 12) ∧ 1 ≤ cn (rkj k S 12).1 12 ∧ cn (rkj k S 12).1 12 < cn S.1 12 := by
  obtain ⟨⟨W, D, hT, hW⟩, hL, hN, hn⟩ := id h
  have p12 : ∀ x, S.1 x = true → x < 12 := fun x q => h.lt q
  have leaf : ∀ m, mk S m = true → ∀ z z', 0 < W m z → 0 < W m z' → z = z' := fun m hm z z' q q' => by
    refine Decidable.byContradiction fun ne => ?_
    have pz := hT.p2 q
    have pz' := hT.p2 q'
    by_cases e : cn S.1 12 = 2
    · have m1 : m ≠ z := fun e => by rw [e, TR.wi hT] at q; omega
      have m2 : m ≠ z' := fun e => by rw [e, TR.wi hT] at q'; omega
      have := cn_3 (p12 _ pz.1) (p12 _ pz.2) (p12 _ pz'.2) pz.1 pz.2 pz'.2 m1 m2 ne
      omega
    · have := ((mk_3 e).mp hm).2
      have := cn_2 (p := nz S.2.1 m) (p12 _ pz.2) (p12 _ pz'.2) (nz_t.mpr ((hW _ _).mpr q)) (nz_t.mpr ((hW _ _).mpr q')) ne
      omega
  have hQ : ∀ x, (rkj k S 12).1 x = true ↔ S.1 x = true ∧ ¬ mk S x = true := fun x => by
    rw [rkj_1]
    exact ⟨fun q => ⟨q.1, fun z => q.2 ⟨p12 x q.1, z⟩⟩, fun q => ⟨q.1, fun z => q.2 z.2⟩⟩
  have t1 : Tw (rkj k S 12).1 (lsW W (rkj k S 12).1) D := hT.lose (fun x q => ((hQ x).mp q).1) (fun m hm hn => leaf m (Decidable.byContradiction fun z => hn ((hQ m).mpr ⟨hm, z⟩)))
  refine ⟨⟨⟨_, D, t1, fun x y => ?_⟩, fun x y => ?_, fun x q => hN x ((hQ x).mp q).1, hn⟩, ?_, ?_⟩
  · rw [rkj_2]
    unfold lsW
    by_cases q : (rkj k S 12).1 x = true ∧ (rkj k S 12).1 y = true
    · rw [if_pos q]
      have q1 := (hQ x).mp q.1
      have q2 := (hQ y).mp q.2
      rw [if_neg (fun z => z.elim (fun z => q1.2 z.2) (fun z => q2.2 z.2))]
      exact hW x y
    · rw [if_neg q]
      by_cases z : (x < 12 ∧ mk S x = true) ∨ (y < 12 ∧ mk S y = true)
      · rw [if_pos z]
      · rw [if_neg z]
        refine ⟨fun u => ?_, fun u => absurd u (Nat.lt_irrefl 0)⟩
        have pu := h.e u
        exact absurd ⟨(hQ x).mpr ⟨pu.1, fun v => z (Or.inl ⟨p12 x pu.1, v⟩)⟩, (hQ y).mpr ⟨pu.2, fun v => z (Or.inr ⟨p12 y pu.2, v⟩)⟩⟩ q
  · rw [rkj_2]
    split
    · omega
    · exact hL x y
  · -- somebody stays
    have : ∃ x, S.1 x = true ∧ ¬ mk S x = true := by
      refine Classical.byContradiction fun ne => ?_
      have all : ∀ x, S.1 x = true → mk S x = true := fun x q => Decidable.byContradiction fun z => ne ⟨x, q, z⟩
      obtain ⟨x, x1, x2⟩ := cn_ex (p := S.1) (k := 12) (by omega)
      by_cases e : cn S.1 12 = 2
      · obtain ⟨y, y1, y2, y3⟩ := cn_other (p := S.1) (x := x) h2
        have g1 := ((mk_2 e).mp (all x x2)).2 y y1
        have g2 := ((mk_2 e).mp (all y y2)).2 x x1
        rcases Nat.lt_trichotomy x y with q | q | q
        · exact g1 q y2
        · exact y3 q.symm
        · exact g2 q x2
      · obtain ⟨y, y1, y2, y3⟩ := cn_other (p := S.1) (x := x) h2
        obtain ⟨t, ht⟩ := hT.nbr x2 y2 (fun e => y3 e.symm)
        have pt := (hT.p2 ht).2
        have hr := cn_rm x1 x2
        obtain ⟨z, z1, z2, z3⟩ := cn_other (p := pm S.1 x) (x := t) (k := 12) (by omega)
        have z4 := pm_t.mp z2
        have wt : 0 < W t x := by rw [TR.ws hT]; exact ht
        rcases hT.pair ht (fun u hu => leaf x (all x x2) u t hu ht) (fun u hu => leaf t (all t pt) u x hu wt) z4.1 with q | q
        · exact z4.2 q
        · exact z3 q
    obtain ⟨x, h3, h4⟩ := this
    exact cn_pos (p12 x h3) ((hQ x).mpr ⟨h3, h4⟩)
  · -- somebody goes
    have : ∃ x, mk S x = true := by
      obtain ⟨x, x1, x2⟩ := cn_ex (p := S.1) (k := 12) (by omega)
      by_cases e : cn S.1 12 = 2
      · obtain ⟨y, y1, y2, y3⟩ := far_ex S.1 (fun x => x) 12 (by omega)
        refine ⟨y, (mk_2 e).mpr ⟨y2, fun u u1 u2 u3 => ?_⟩⟩
        have := y3 u u1 u3
        omega
      · obtain ⟨y, y1, y2, y3⟩ := far_ex S.1 (D x) 12 (by omega)
        obtain ⟨u, u1, u2, u3⟩ := cn_other (p := S.1) (x := x) h2
        have xy : x ≠ y := fun q => by
          have g := y3 u u1 u2
          have g2 := TR.pos hT (x := x) (y := u) ⟨x2, u2⟩ (fun e => u3 e.symm)
          have g3 := TR.d0 hT x2
          rw [← q, g3] at g
          omega
        obtain ⟨t, t1, t2⟩ := hT.leaf x2 y2 xy (fun z pz => y3 z (p12 z pz) pz)
        refine ⟨y, (mk_3 e).mpr ⟨y2, cn_one (t := t) (p12 t (hT.p2 t1).2) (nz_t.mpr ((hW _ _).mpr t1)) (fun z _ q => t2 z ((hW _ _).mp (nz_t.mp q)))⟩⟩
    obtain ⟨x, hx⟩ := this
    exact cn_lt (fun y _ q => ((hQ y).mp q).1) (p12 x (mk_P hx)) (mk_P hx) (fun q => ((hQ x).mp q).2 hx)
theorem Tc.bp1 (h : Tc n S) (v : Nat) : Tc n (bp k v S) ∧ (1 ≤ cn S.1 12 → 1 ≤ cn (bp k v S).1 12) ∧ cn (bp k v S).1 12 ≤ cn S.1 12 := by
  by_cases c : S.1 v = true ∧ cn (nz S.2.1 v) 12 = 2 ∧ S.2.1 v (nb S.2.1 v 0) = 1 ∧ S.2.1 v (nb S.2.1 v (nb S.2.1 v 0 + 1)) = 1
  · have eb : bp k v S = put2 (nb S.2.1 v 0) (nb S.2.1 v (nb S.2.1 v 0 + 1)) (rmv k v S) := if_pos c
    rw [eb]
    obtain ⟨n1, n2, n3, n4, n5, n6, n7⟩ := nb_two c.2.1
    generalize nb S.2.1 v (nb S.2.1 v 0 + 1) = b at *
    generalize nb S.2.1 v 0 = a at *
    obtain ⟨⟨W, D, hT, hW⟩, hL, hN, hn⟩ := id h
    have g := hT.bridge ((hW _ _).mp n3) ((hW _ _).mp n4) (by omega) (fun z q => n7 z (h.lt (hT.p2 q).2) ((hW _ _).mpr q))
    obtain ⟨g1, av, bv⟩ := g
    refine ⟨⟨⟨_, D, g1, fun x y => ?_⟩, fun x y => ?_, fun x q => hN x (pm_t.mp q).1, hn⟩, fun _ => ?_, cn_le (fun x _ q => (pm_t.mp q).1)⟩
    · show 0 < updE (fun x y => if x = v ∨ y = v then 0 else S.2.1 x y) a b 2 x y ↔ 0 < brW W v a b x y
      have wa := (hW _ _).mp n3
      unfold updE brW
      dsimp only
      by_cases q : (x = a ∧ y = b) ∨ (x = b ∧ y = a)
      · rw [if_pos q, if_neg (show ¬ (x = v ∨ y = v) by omega), if_pos q]
        exact ⟨fun _ => by omega, fun _ => by decide⟩
      · rw [if_neg q]
        by_cases q2 : x = v ∨ y = v
        · rw [if_pos q2, if_pos q2]
        · rw [if_neg q2, if_neg q2, if_neg q]; exact hW x y
    · show updE (fun x y => if x = v ∨ y = v then 0 else S.2.1 x y) a b 2 x y ≤ 2
      unfold updE
      dsimp only
      split
      · omega
      · split
        · omega
        · exact hL x y
    · exact cn_pos (h.lt (h.e n3).2) (pm_t.mpr ⟨(h.e n3).2, av⟩)
  · have eb : bp k v S = S := if_neg c
    rw [eb]
    exact ⟨h, fun q => q, Nat.le_refl _⟩
theorem Tc.cp1 (h : Tc n S) : ∀ j, Tc n (cpj k S j) ∧ (1 ≤ cn S.1 12 → 1 ≤ cn (cpj k S j).1 12) ∧ cn (cpj k S j).1 12 ≤ cn S.1 12
  | 0 => by
    obtain ⟨⟨W, D, hT, hW⟩, hL, hN, hn⟩ := h
    refine ⟨⟨⟨W, D, hT, fun x y => ?_⟩, fun x y => ?_, hN, hn⟩, fun q => q, Nat.le_refl _⟩
    · show 0 < min (S.2.1 x y) 1 ↔ _
      rw [← hW]; omega
    · show min (S.2.1 x y) 1 ≤ 2
      omega
  | j + 1 => by
    obtain ⟨h1, h2, h3⟩ := Tc.cp1 h j
    obtain ⟨g1, g2, g3⟩ := h1.bp1 (k := k) j
    exact ⟨g1, fun q => g2 (h2 q), Nat.le_trans g3 h3⟩
theorem Tc.rnd1 (h : Tc n S) (h2 : 2 ≤ cn S.1 12) : Tc n (rnd k S) ∧ 1 ≤ cn (rnd k S).1 12 ∧ cn (rnd k S).1 12 < cn S.1 12 := by
  obtain ⟨a1, a2, a3⟩ := h.rk (k := k) h2
  obtain ⟨b1, b2, b3⟩ := a1.cp1 (k := k) 12
  exact ⟨b1, b2 a2, Nat.lt_of_le_of_lt b3 a3⟩
/-- the rounds end -/
theorem Tc.fin (h : Tc n S) (h1 : 1 ≤ cn S.1 12) : ∃ T, T ≤ 11 ∧ Fin1 S T ∧ (∀ j, j ≤ T → Tc n (StC S j) ∧ 1 ≤ cn (StC S j).1 12) := by
  have key : ∀ d T, (∀ j, j < T → 2 ≤ cn (StC S j).1 12) → (∀ j, j ≤ T → Tc n (StC S j) ∧ 1 ≤ cn (StC S j).1 12) → cn (StC S T).1 12 + T ≤ 12 → cn (StC S T).1 12 = d + 1 → ∃ T, T ≤ 11 ∧ Fin1 S T ∧ (∀ j, j ≤ T → Tc n (StC S j) ∧ 1 ≤ cn (StC S j).1 12) := by
    intro d
    induction d using Nat.strongRecOn with
    | ind d ih =>
      intro T k1 k2 k3 k4
      by_cases e : cn (StC S T).1 12 ≤ 1
      · exact ⟨T, by omega, ⟨k1, e⟩, k2⟩
      · obtain ⟨b1, b2, b3⟩ := (k2 T (Nat.le_refl _)).1.rnd1 (k := T + 1) (by omega)
        change Tc n (StC S (T + 1)) at b1
        change 1 ≤ cn (StC S (T + 1)).1 12 at b2
        change cn (StC S (T + 1)).1 12 < _ at b3
        refine ih (cn (StC S (T + 1)).1 12 - 1) (by omega) (T + 1) (fun j hj => ?_) (fun j hj => ?_) (by omega) (by omega)
        · rcases Nat.lt_succ_iff_lt_or_eq.mp hj with q | q
          · exact k1 j q
          · rw [q]; omega
        · by_cases q : j = T + 1
          · rw [q]; exact ⟨b1, b2⟩
          · exact k2 j (by omega)
  exact key (cn S.1 12 - 1) 0 (fun j hj => absurd hj (Nat.not_lt_zero j)) (fun j hj => by rw [show j = 0 by omega]; exact ⟨h, h1⟩) (by have := cn_up S.1 12; show cn S.1 12 + 0 ≤ 12; omega) (by show cn S.1 12 = _; omega)
end CT
