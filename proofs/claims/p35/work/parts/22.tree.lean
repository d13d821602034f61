/-! forests: vertices V, weights W (0: no edge), c: of one tree, D: the distances -/
def TR (V : Nat → Prop) (W : Nat → Nat → Nat) (c : Nat → Nat → Prop) (D : Nat → Nat → Nat) : Prop :=
  (∀ x, V x → c x x) ∧ (∀ x y, c x y → V x ∧ V y) ∧ (∀ x y, c x y → c y x) ∧ (∀ x y z, c x y → c y z → c x z) ∧ (∀ x y, 0 < W x y → c x y) ∧ (∀ x y, W x y = W y x) ∧ (∀ x, V x → D x x = 0) ∧ (∀ x y, c x y → D x y = D y x) ∧
  (∀ x y z, 0 < W x y → c z x → D z x = D z y + W x y ∨ D z y = D z x + W x y) ∧ (∀ x y, c x y → x ≠ y → ∃ z, 0 < W x z ∧ D x y = W x z + D z y) ∧
  (∀ x y z z', c x y → 0 < W x z → 0 < W x z' → D x y = W x z + D z y → D x y = W x z' + D z' y → z = z')
section TRs
variable {V : Nat → Prop} {W : Nat → Nat → Nat} {c : Nat → Nat → Prop} {D : Nat → Nat → Nat}
theorem TR.rf (h : TR V W c D) {x : Nat} (hx : V x) : c x x := h.1 x hx
theorem TR.v1 (h : TR V W c D) {x y : Nat} (q : c x y) : V x := (h.2.1 x y q).1
theorem TR.v2 (h : TR V W c D) {x y : Nat} (q : c x y) : V y := (h.2.1 x y q).2
theorem TR.sy (h : TR V W c D) {x y : Nat} (q : c x y) : c y x := h.2.2.1 x y q
theorem TR.tr (h : TR V W c D) {x y z : Nat} (q : c x y) (q2 : c y z) : c x z := h.2.2.2.1 x y z q q2
theorem TR.ed (h : TR V W c D) {x y : Nat} (q : 0 < W x y) : c x y := h.2.2.2.2.1 x y q
theorem TR.ws (h : TR V W c D) (x y : Nat) : W x y = W y x := h.2.2.2.2.2.1 x y
theorem TR.d0 (h : TR V W c D) {x : Nat} (q : V x) : D x x = 0 := h.2.2.2.2.2.2.1 x q
theorem TR.ds (h : TR V W c D) {x y : Nat} (q : c x y) : D x y = D y x := h.2.2.2.2.2.2.2.1 x y q
theorem TR.a4 (h : TR V W c D) {x y z : Nat} (q : 0 < W x y) (q2 : c z x) : D z x = D z y + W x y ∨ D z y = D z x + W x y := h.2.2.2.2.2.2.2.2.1 x y z q q2
theorem TR.a5 (h : TR V W c D) {x y : Nat} (q : c x y) (q2 : x ≠ y) : ∃ z, 0 < W x z ∧ D x y = W x z + D z y := h.2.2.2.2.2.2.2.2.2.1 x y q q2
theorem TR.a6 (h : TR V W c D) {x y z z' : Nat} (q : c x y) (q1 : 0 < W x z) (q2 : 0 < W x z') (q3 : D x y = W x z + D z y) (q4 : D x y = W x z' + D z' y) : z = z' := h.2.2.2.2.2.2.2.2.2.2 x y z z' q q1 q2 q3 q4
/-- a4, from the other end -/
theorem TR.a4' (h : TR V W c D) {x y z : Nat} (q : 0 < W x y) (q2 : c x z) : D x z = W x y + D y z ∨ D y z = W x y + D x z := by
  have h1 := h.a4 q (h.sy q2)
  have h2 := h.ds q2
  have h3 := h.ds (h.tr (h.sy (h.ed q)) q2)
  omega
theorem TR.pos (h : TR V W c D) {x y : Nat} (q : c x y) (q2 : x ≠ y) : 0 < D x y := by
  obtain ⟨z, h1, h2⟩ := h.a5 q q2
  omega
theorem TR.d00 (h : TR V W c D) {x y : Nat} (q : c x y) (q2 : D x y = 0) : x = y := by
  by_cases e : x = y
  · exact e
  · have := h.pos q e
    omega
theorem TR.de (h : TR V W c D) {x y : Nat} (q : 0 < W x y) : D x y = W x y := by
  have h1 := h.a4 q (h.rf (h.v1 (h.ed q)))
  have h2 := h.d0 (h.v1 (h.ed q))
  omega
theorem TR.wi (h : TR V W c D) (x : Nat) : W x x = 0 := by
  rcases Nat.eq_zero_or_pos (W x x) with e | e
  · exact e
  · have h1 := h.a4 e (h.rf (h.v1 (h.ed e)))
    omega
theorem TR.tri (h : TR V W c D) : ∀ (k : Nat) {x y z : Nat}, D x y ≤ k → c x y → c y z → D x z ≤ D x y + D y z := by
  intro k
  induction k with
  | zero =>
    intro x y z hk q q2
    have e := h.d00 q (by omega)
    subst e
    omega
  | succ k ih =>
    intro x y z hk q q2
    by_cases e : x = y
    · subst e; omega
    · obtain ⟨u, h1, h2⟩ := h.a5 q e
      have q3 : c u y := h.tr (h.sy (h.ed h1)) q
      have h3 := ih (by omega) q3 q2
      have h4 := h.a4' h1 (h.tr q q2)
      omega
theorem TR.tri' (h : TR V W c D) {x y z : Nat} (q : c x y) (q2 : c y z) : D x z ≤ D x y + D y z := h.tri _ (Nat.le_refl _) q q2
/-- x is nearer to p than its neighbour y, and y lies towards u: the path from p to u goes over x -/
theorem TR.ext (h : TR V W c D) : ∀ (k : Nat) {p x y u : Nat}, D y u ≤ k → 0 < W x y → c p x → c x u → D p y = D p x + W x y → D x u = W x y + D y u → D p u = D p x + D x u := by
  intro k
  induction k with
  | zero =>
    intro p x y u hk e q q2 h1 h2
    have e2 := h.d00 (h.tr (h.sy (h.ed e)) q2) (by omega)
    subst e2
    omega
  | succ k ih =>
    intro p x y u hk e q q2 h1 h2
    by_cases eu : y = u
    · subst eu
      have := h.d0 (h.v2 q2)
      omega
    · obtain ⟨z, h3, h4⟩ := h.a5 (h.tr (h.sy (h.ed e)) q2) eu
      have qy : c p y := h.tr q (h.ed e)
      rcases h.a4 h3 qy with h5 | h5
      · have e1 : x = z := by
          have s1 := h.ds qy
          have s2 := h.ds q
          have s3 := h.ds (h.tr qy (h.ed h3))
          have s4 := h.ws x y
          exact h.a6 (h.sy qy) (by omega) h3 (by omega) (by omega)
        subst e1
        have s4 := h.ws x y
        omega
      · have := ih (by omega) h3 qy (h.tr (h.sy (h.ed e)) q2) h5 h4
        omega
theorem TR.ext' (h : TR V W c D) {p x y u : Nat} (e : 0 < W x y) (q : c p x) (q2 : c x u) (h1 : D p y = D p x + W x y) (h2 : D x u = W x y + D y u) : D p u = D p x + D x u := h.ext _ (Nat.le_refl _) e q q2 h1 h2
/-- across an edge -/
theorem TR.across (h : TR V W c D) {a b x y : Nat} (e : 0 < W a b) (q : c x a) (q2 : c y a) (hx : D x a < D x b) (hy : ¬ D y a < D y b) : D x y = D x a + W a b + D b y := by
  have h1 := h.a4 e q
  have h2 := h.a4 e q2
  have s1 := h.ds q2
  have s2 := h.ds (h.tr q2 (h.ed e))
  have := h.ext' e q (h.sy q2) (by omega) (by omega)
  omega
theorem TR.cross (h : TR V W c D) {a b x y : Nat} (e : 0 < W a b) (e2 : 0 < W x y) (q : c x a) (hx : D x a < D x b) (hy : ¬ D y a < D y b) : x = a ∧ y = b := by
  have qy : c y a := h.tr (h.sy (h.ed e2)) q
  have h1 := h.across e q qy hx hy
  have h2 := h.de e2
  have h3 := h.a4 e2 (h.sy q)
  have h4 := h.a4 e qy
  have s1 := h.ds q
  have s2 := h.ds qy
  have s3 := h.ds (h.tr qy (h.ed e))
  have ex : x = a := h.d00 q (by omega)
  subst ex
  have s4 := h.d0 (h.v1 q)
  have s5 := h.d0 (h.v1 qy)
  exact ⟨rfl, h.a6 (h.ed e2) e2 e (by omega) (by omega)⟩
/-- the vertex that lies on all three paths -/
theorem TR.med (h : TR V W c D) : ∀ (k : Nat) {u v w : Nat}, D u v ≤ k → c u v → c u w → ∃ x, c u x ∧ D u x + D x v = D u v ∧ D u x + D x w = D u w ∧ D v x + D x w = D v w := by
  intro k
  induction k with
  | zero =>
    intro u v w hk q q2
    have e := h.d00 q (by omega)
    subst e
    have := h.d0 (h.v1 q)
    exact ⟨u, q, by omega, by omega, by omega⟩
  | succ k ih =>
    intro u v w hk q q2
    by_cases e : u = v
    · subst e
      have := h.d0 (h.v1 q)
      exact ⟨u, q, by omega, by omega, by omega⟩
    · obtain ⟨z, h1, h2⟩ := h.a5 q e
      have qz := h.ed h1
      have s1 := h.ds q2
      have s2 := h.ds (h.tr (h.sy qz) q2)
      rcases h.a4 h1 (h.sy q2) with h3 | h3
      · obtain ⟨x, g1, g2, g3, g4⟩ := ih (u := z) (v := v) (w := w) (by omega) (h.tr (h.sy qz) q) (h.tr (h.sy qz) q2)
        have t1 := h.tri' (h.tr qz g1) (h.tr (h.sy (h.tr qz g1)) q)
        have t2 := h.tri' qz g1
        have t3 := h.de h1
        exact ⟨x, h.tr qz g1, by omega, by omega, g4⟩
      · have g := h.ext' h1 (h.sy q2) q h3 h2
        have := h.d0 (h.v1 q)
        have s3 := h.ds q
        have s4 := h.ds (h.tr (h.sy q2) q)
        exact ⟨u, h.rf (h.v1 q), by omega, by omega, by omega⟩
/-- two weights on the same edges: the same neighbours are nearer -/
theorem TR.near {U : Nat → Nat → Nat} {H : Nat → Nat → Nat} (h : TR V W c D) (g : TR V U c H) (hUW : ∀ x y, 0 < W x y ↔ 0 < U x y) : ∀ (k : Nat) {x y z : Nat}, D z y ≤ k → c x y → 0 < W x z → D x y = W x z + D z y → H x y = U x z + H z y := by
  intro k
  induction k with
  | zero =>
    intro x y z hk q e h1
    have e2 := h.d00 (h.tr (h.sy (h.ed e)) q) (by omega)
    subst e2
    have := g.de ((hUW _ _).mp e)
    have := g.d0 (g.v2 q)
    omega
  | succ k ih =>
    intro x y z hk q e h1
    by_cases ez : z = y
    · subst ez
      have := g.de ((hUW _ _).mp e)
      have := g.d0 (g.v2 q)
      omega
    · have qz := h.tr (h.sy (h.ed e)) q
      obtain ⟨t, h2, h3⟩ := h.a5 qz ez
      have h4 := ih (by omega) qz h2 h3
      rcases g.a4' ((hUW _ _).mp e) q with h5 | h5
      · exact h5
      · have s := g.ws x z
        have e3 : x = t := g.a6 qz (z := x) (by have := (hUW _ _).mp e; omega) ((hUW _ _).mp h2) (by omega) h4
        subst e3
        have s2 := h.ws x z
        omega
theorem TR.near' {U : Nat → Nat → Nat} {H : Nat → Nat → Nat} (h : TR V W c D) (g : TR V U c H) (hUW : ∀ x y, 0 < W x y ↔ 0 < U x y) {x y z : Nat} (q : c x y) (e : 0 < W x z) : D x y = W x z + D z y ↔ H x y = U x z + H z y := by
  refine ⟨fun h1 => h.near g hUW _ (Nat.le_refl _) q e h1, fun h1 => ?_⟩
  rcases h.a4' e q with h2 | h2
  · exact h2
  · have s := h.ws x z
    have s2 := g.ws x z
    have h3 := h.near g hUW _ (Nat.le_refl _) (x := z) (y := y) (z := x) (h.tr (h.sy (h.ed e)) q) (by omega) (by omega)
    have := (hUW _ _).mp e
    omega
/-- an edge is cut -/
theorem TR.cut (h : TR V W c D) {a b : Nat} (e : 0 < W a b) : TR V (updE W a b 0) (fun x y => c x y ∧ (c x a → (D x a < D x b ↔ D y a < D y b))) D := by
  have up : ∀ {x y : Nat}, 0 < updE W a b 0 x y → 0 < W x y ∧ updE W a b 0 x y = W x y ∧ ¬ (x = a ∧ y = b) ∧ ¬ (x = b ∧ y = a) := by
    intro x y q
    unfold updE at q ⊢
    split at q
    · exact absurd q (Nat.lt_irrefl 0)
    · next z => rw [if_neg z]; exact ⟨q, rfl, by omega, by omega⟩
  refine ⟨fun x hx => ⟨h.rf hx, fun _ => Iff.rfl⟩, fun x y q => ⟨h.v1 q.1, h.v2 q.1⟩, fun x y q => ⟨h.sy q.1, fun q2 => (q.2 (h.tr q.1 q2)).symm⟩, fun x y z q q2 => ⟨h.tr q.1 q2.1, fun q3 => (q.2 q3).trans (q2.2 (h.tr (h.sy q.1) q3))⟩, fun x y q => ?_, fun x y => ?_, fun x hx => h.d0 hx, fun x y q => h.ds q.1, fun x y z q q2 => ?_, fun x y q hxy => ?_, fun x y z z' q q1 q2 q3 q4 => ?_⟩
  · obtain ⟨u1, u2, u3, u4⟩ := up q
    refine ⟨h.ed u1, fun q2 => ⟨fun q3 => ?_, fun q3 => ?_⟩⟩
    · refine Decidable.byContradiction fun q4 => ?_
      exact u3 (h.cross e u1 q2 q3 q4)
    · refine Decidable.byContradiction fun q4 => ?_
      have q5 : 0 < W y x := by rw [h.ws]; exact u1
      obtain ⟨e1, e2⟩ := h.cross e q5 (h.tr (h.ed q5) q2) q3 q4
      exact u4 ⟨e2, e1⟩
  · have := h.ws x y
    unfold updE
    split
    · rw [if_pos (by omega)]
    · rw [if_neg (by omega)]; exact this
  · obtain ⟨u1, u2, -, -⟩ := up q
    rw [u2]
    exact h.a4 u1 q2.1
  · obtain ⟨z, h1, h2⟩ := h.a5 q.1 hxy
    have key : ¬ (x = a ∧ z = b) ∧ ¬ (x = b ∧ z = a) := by
      refine ⟨fun ⟨e1, e2⟩ => ?_, fun ⟨e1, e2⟩ => ?_⟩
      · subst e1; subst e2
        have i1 := q.2 (h.rf (h.v1 q.1))
        have i2 := h.d0 (h.v1 q.1)
        have i3 := h.de e
        have i4 := h.ds q.1
        have i5 := h.ds (h.tr (h.sy (h.ed e)) q.1)
        omega
      · subst e1; subst e2
        have i1 := q.2 (h.ed h1)
        have i2 := h.d0 (h.v1 q.1)
        have i3 := h.de h1
        have i4 := h.ds q.1
        have i5 := h.ds (h.tr (h.sy (h.ed h1)) q.1)
        omega
    have u : updE W a b 0 x z = W x z := by unfold updE; rw [if_neg (by omega)]
    exact ⟨z, by rw [u]; exact h1, by rw [u]; exact h2⟩
  · obtain ⟨u1, u2, -, -⟩ := up q1
    obtain ⟨v1, v2, -, -⟩ := up q2
    rw [u2] at q3
    rw [v2] at q4
    exact h.a6 q.1 u1 v1 q3 q4
/-- two trees are linked -/
theorem TR.link (h : TR V W c D) {u v k : Nat} (hu : V u) (hv : V v) (hn : ¬ c u v) (hk : 0 < k) : ∃ D' : Nat → Nat → Nat, TR V (updE W u v k) (fun x y => c x y ∨ (c x u ∧ c y v) ∨ (c x v ∧ c y u)) D' ∧ (∀ x y, c x y → D' x y = D x y) ∧ (∀ x y, c x u → c y v → D' x y = D x u + k + D v y) ∧ (∀ x y, c x v → c y u → D' x y = D x v + k + D u y) := by
  classical
  have ap : ∀ x, c x u → c x v → False := fun x q q2 => hn (h.tr (h.sy q) q2)
  have ap2 : ∀ x y, c x u → c y v → ¬ c x y := fun x y q q2 q3 => ap x q (h.tr q3 q2)
  have ap3 : ∀ x y, c x v → c y u → ¬ c x y := fun x y q q2 q3 => ap y q2 (h.tr (h.sy q3) q)
  let D' : Nat → Nat → Nat := fun x y => if c x y then D x y else if c x u then D x u + k + D v y else D x v + k + D u y
  have f1 : ∀ x y, c x y → D' x y = D x y := fun x y q => if_pos q
  have f2 : ∀ x y, c x u → c y v → D' x y = D x u + k + D v y := fun x y q q2 => by
    show (if c x y then D x y else if c x u then D x u + k + D v y else D x v + k + D u y) = _
    rw [if_neg (ap2 x y q q2), if_pos q]
  have f3 : ∀ x y, c x v → c y u → D' x y = D x v + k + D u y := fun x y q q2 => by
    show (if c x y then D x y else if c x u then D x u + k + D v y else D x v + k + D u y) = _
    rw [if_neg (ap3 x y q q2), if_neg (fun q3 => ap x q3 q)]
  refine ⟨D', ?_, f1, f2, f3⟩
  clear_value D'
  have wuv : W u v = 0 := by
    rcases Nat.eq_zero_or_pos (W u v) with e | e
    · exact e
    · exact absurd (h.ed e) hn
  have huv : u ≠ v := fun e => hn (by rw [← e]; exact h.rf hu)
  have up : ∀ {x y : Nat}, 0 < updE W u v k x y → (0 < W x y ∧ updE W u v k x y = W x y) ∨ (x = u ∧ y = v ∧ updE W u v k x y = k) ∨ (x = v ∧ y = u ∧ updE W u v k x y = k) := by
    intro x y q
    unfold updE at q ⊢
    split at q
    · next z => rw [if_pos z]; rcases z with z | z
                · exact Or.inr (Or.inl ⟨z.1, z.2, rfl⟩)
                · exact Or.inr (Or.inr ⟨z.1, z.2, rfl⟩)
    · next z => rw [if_neg z]; exact Or.inl ⟨q, rfl⟩
  have keep : ∀ {x y : Nat}, 0 < W x y → updE W u v k x y = W x y := by
    intro x y q
    unfold updE
    have wvu := h.ws u v
    rw [if_neg]
    rintro (⟨rfl, rfl⟩ | ⟨rfl, rfl⟩) <;> omega
  have kuv : updE W u v k u v = k := by unfold updE; rw [if_pos (Or.inl ⟨rfl, rfl⟩)]
  have kvu : updE W u v k v u = k := by unfold updE; rw [if_pos (Or.inr ⟨rfl, rfl⟩)]
  refine ⟨fun x hx => Or.inl (h.rf hx), fun x y q => ?_, fun x y q => ?_, fun x y z q q2 => ?_, fun x y q => ?_, fun x y => ?_, fun x hx => ?_, fun x y q => ?_, fun x y z q q2 => ?_, fun x y q hxy => ?_, fun x y z z' q q1 q2 q3 q4 => ?_⟩
  · rcases q with q | q | q
    · exact ⟨h.v1 q, h.v2 q⟩
    · exact ⟨h.v1 q.1, h.v1 q.2⟩
    · exact ⟨h.v1 q.1, h.v1 q.2⟩
  · rcases q with q | q | q
    · exact Or.inl (h.sy q)
    · exact Or.inr (Or.inr ⟨q.2, q.1⟩)
    · exact Or.inr (Or.inl ⟨q.2, q.1⟩)
  · rcases q with q | q | q <;> rcases q2 with q2 | q2 | q2
    · exact Or.inl (h.tr q q2)
    · exact Or.inr (Or.inl ⟨h.tr q q2.1, q2.2⟩)
    · exact Or.inr (Or.inr ⟨h.tr q q2.1, q2.2⟩)
    · exact Or.inr (Or.inl ⟨q.1, h.tr (h.sy q2) q.2⟩)
    · exact (ap _ q2.1 q.2).elim
    · exact Or.inl (h.tr q.1 (h.sy q2.2))
    · exact Or.inr (Or.inr ⟨q.1, h.tr (h.sy q2) q.2⟩)
    · exact Or.inl (h.tr q.1 (h.sy q2.2))
    · exact (ap _ q.2 q2.1).elim
  · rcases up q with ⟨q1, -⟩ | ⟨rfl, rfl, -⟩ | ⟨rfl, rfl, -⟩
    · exact Or.inl (h.ed q1)
    · exact Or.inr (Or.inl ⟨h.rf hu, h.rf hv⟩)
    · exact Or.inr (Or.inr ⟨h.rf hv, h.rf hu⟩)
  · have := h.ws x y
    unfold updE
    split
    · rw [if_pos (by omega)]
    · rw [if_neg (by omega)]; exact this
  · rw [f1 x x (h.rf hx)]; exact h.d0 hx
  · rcases q with q | q | q
    · rw [f1 _ _ q, f1 _ _ (h.sy q)]; exact h.ds q
    · have s1 := h.ds q.1
      have s2 := h.ds q.2
      rw [f2 _ _ q.1 q.2, f3 _ _ q.2 q.1]; omega
    · have s1 := h.ds q.1
      have s2 := h.ds q.2
      rw [f3 _ _ q.1 q.2, f2 _ _ q.2 q.1]; omega
  · rcases up q with ⟨q1, e⟩ | ⟨rfl, rfl, e⟩ | ⟨rfl, rfl, e⟩
    · rw [e]
      rcases q2 with q2 | q2 | q2
      · rw [f1 _ _ q2, f1 _ _ (h.tr q2 (h.ed q1))]; exact h.a4 q1 q2
      · have q3 := h.tr (h.sy (h.ed q1)) q2.2
        have := h.a4 q1 (h.sy q2.2)
        rw [f2 _ _ q2.1 q2.2, f2 _ _ q2.1 q3]; omega
      · have q3 := h.tr (h.sy (h.ed q1)) q2.2
        have := h.a4 q1 (h.sy q2.2)
        rw [f3 _ _ q2.1 q2.2, f3 _ _ q2.1 q3]; omega
    · rw [e]
      have e1 := h.d0 hu
      have e2 := h.d0 hv
      rcases q2 with q2 | q2 | q2
      · rw [f1 _ _ q2, f2 _ _ q2 (h.rf hv)]; omega
      · exact (ap _ (h.rf hu) q2.2).elim
      · rw [f3 _ _ q2.1 q2.2, f1 _ _ q2.1]; omega
    · rw [e]
      have e1 := h.d0 hu
      have e2 := h.d0 hv
      rcases q2 with q2 | q2 | q2
      · rw [f1 _ _ q2, f3 _ _ q2 (h.rf hu)]; omega
      · rw [f2 _ _ q2.1 q2.2, f1 _ _ q2.1]; omega
      · exact (ap _ q2.2 (h.rf hv)).elim
  · have e1 := h.d0 hu
    have e2 := h.d0 hv
    rcases q with q | q | q
    · obtain ⟨z, h1, h2⟩ := h.a5 q hxy
      exact ⟨z, by rw [keep h1]; exact h1, by rw [keep h1, f1 _ _ q, f1 _ _ (h.tr (h.sy (h.ed h1)) q)]; exact h2⟩
    · by_cases ex : x = u
      · subst ex
        refine ⟨v, by rw [kuv]; exact hk, ?_⟩
        rw [kuv, f2 _ _ q.1 q.2, f1 _ _ (h.sy q.2)]; omega
      · obtain ⟨z, h1, h2⟩ := h.a5 q.1 ex
        refine ⟨z, by rw [keep h1]; exact h1, ?_⟩
        rw [keep h1, f2 _ _ q.1 q.2, f2 _ _ (h.tr (h.sy (h.ed h1)) q.1) q.2]; omega
    · by_cases ex : x = v
      · subst ex
        refine ⟨u, by rw [kvu]; exact hk, ?_⟩
        rw [kvu, f3 _ _ q.1 q.2, f1 _ _ (h.sy q.2)]; omega
      · obtain ⟨z, h1, h2⟩ := h.a5 q.1 ex
        refine ⟨z, by rw [keep h1]; exact h1, ?_⟩
        rw [keep h1, f3 _ _ q.1 q.2, f3 _ _ (h.tr (h.sy (h.ed h1)) q.1) q.2]; omega
  · have e1 := h.d0 hu
    have e2 := h.d0 hv
    -- what a next vertex is
    have nx : ∀ t, 0 < updE W u v k x t → D' x y = updE W u v k x t + D' t y → (c x y ∧ 0 < W x t ∧ D x y = W x t + D t y) ∨ (c x u ∧ c y v ∧ x = u ∧ t = v) ∨ (c x u ∧ c y v ∧ x ≠ u ∧ 0 < W x t ∧ D x u = W x t + D t u) ∨ (c x v ∧ c y u ∧ x = v ∧ t = u) ∨ (c x v ∧ c y u ∧ x ≠ v ∧ 0 < W x t ∧ D x v = W x t + D t v) := by
      intro t w1 w2
      rcases q with q | q | q
      · rcases up w1 with ⟨g1, g2⟩ | ⟨rfl, rfl, g2⟩ | ⟨rfl, rfl, g2⟩
        · rw [g2, f1 _ _ q, f1 _ _ (h.tr (h.sy (h.ed g1)) q)] at w2
          exact Or.inl ⟨q, g1, w2⟩
        · have := h.ds q
          rw [g2, f1 _ _ q, f3 _ _ (h.rf hv) (h.sy q)] at w2
          omega
        · rw [g2, f1 _ _ q, f2 _ _ (h.rf hu) (h.sy q)] at w2
          omega
      · rw [f2 _ _ q.1 q.2] at w2
        rcases up w1 with ⟨g1, g2⟩ | ⟨rfl, rfl, g2⟩ | ⟨rfl, rfl, g2⟩
        · rw [g2, f2 _ _ (h.tr (h.sy (h.ed g1)) q.1) q.2] at w2
          by_cases ex : x = u
          · subst ex
            omega
          · exact Or.inr (Or.inr (Or.inl ⟨q.1, q.2, ex, g1, by omega⟩))
        · exact Or.inr (Or.inl ⟨q.1, q.2, rfl, rfl⟩)
        · exact (ap _ q.1 (h.rf hv)).elim
      · rw [f3 _ _ q.1 q.2] at w2
        rcases up w1 with ⟨g1, g2⟩ | ⟨rfl, rfl, g2⟩ | ⟨rfl, rfl, g2⟩
        · rw [g2, f3 _ _ (h.tr (h.sy (h.ed g1)) q.1) q.2] at w2
          by_cases ex : x = v
          · subst ex
            omega
          · exact Or.inr (Or.inr (Or.inr (Or.inr ⟨q.1, q.2, ex, g1, by omega⟩)))
        · exact (ap _ (h.rf hu) q.1).elim
        · exact Or.inr (Or.inr (Or.inr (Or.inl ⟨q.1, q.2, rfl, rfl⟩)))
    rcases nx z q1 q3 with ⟨g1, g2, g3⟩ | ⟨g1, g2, g3, g4⟩ | ⟨g1, g2, g3, g4, g5⟩ | ⟨g1, g2, g3, g4⟩ | ⟨g1, g2, g3, g4, g5⟩ <;> rcases nx z' q2 q4 with ⟨k1, k2, k3⟩ | ⟨k1, k2, k3, k4⟩ | ⟨k1, k2, k3, k4, k5⟩ | ⟨k1, k2, k3, k4⟩ | ⟨k1, k2, k3, k4, k5⟩
    all_goals first
      | exact h.a6 g1 g2 k2 g3 k3
      | exact h.a6 g1 g4 k4 g5 k5
      | exact (ap2 _ _ k1 k2 g1).elim
      | exact (ap3 _ _ k1 k2 g1).elim
      | exact (ap2 _ _ g1 g2 k1).elim
      | exact (ap3 _ _ g1 g2 k1).elim
      | exact (ap _ g1 k1).elim
      | exact (ap _ k1 g1).elim
      | omega
end TRs
