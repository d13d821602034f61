/-! a forest of n vertices, and bounds of its distances -/
def un (E : Nat → Nat → Nat) : Nat → Nat → Nat := fun x y => if 0 < E x y then 1 else 0
def Fst (n : Nat) (w : Nat → Nat) (E : Nat → Nat → Nat) (c : Nat → Nat → Prop) (D H : Nat → Nat → Nat) : Prop :=
  (1 ≤ n ∧ n ≤ 12) ∧ (∀ v, v < n → w v ≤ 99) ∧ (∀ u v, E u v ≤ 99) ∧ TR (fun x => x < n) E c D ∧ TR (fun x => x < n) (un E) c H
theorem un_pos {E : Nat → Nat → Nat} (x y : Nat) : 0 < E x y ↔ 0 < un E x y := by
  unfold un
  split
  · next h => exact ⟨fun _ => by decide, fun _ => h⟩
  · next h => exact ⟨fun q => absurd q h, fun q => absurd q (by decide)⟩
theorem un_le {E : Nat → Nat → Nat} (x y : Nat) : un E x y ≤ 1 := by
  unfold un
  split <;> decide
theorem un_1 {E : Nat → Nat → Nat} {x y : Nat} (h : 0 < E x y) : un E x y = 1 := if_pos h
theorem un_upd (E : Nat → Nat → Nat) (u v k : Nat) : un (updE E u v k) = updE (un E) u v (if 0 < k then 1 else 0) := by
  funext x y
  unfold un updE
  by_cases q : (x = u ∧ y = v) ∨ (x = v ∧ y = u)
  · rw [if_pos q, if_pos q]
  · rw [if_neg q, if_neg q]
theorem pigeon : ∀ (m n : Nat) (f : Nat → Nat), (∀ i, i < n → f i < m) → (∀ i j, i < j → j < n → f i ≠ f j) → n ≤ m := by
  intro m
  induction m with
  | zero =>
    intro n f h1 h2
    rcases Nat.eq_zero_or_pos n with e | e
    · omega
    · exact absurd (h1 0 e) (Nat.not_lt_zero _)
  | succ m ih =>
    intro n f h1 h2
    rcases Nat.eq_zero_or_pos n with e | e
    · omega
    · by_cases hx : ∃ i, i < n ∧ f i = m
      · obtain ⟨i, hi, hf⟩ := hx
        have := ih (n - 1) (fun j => f (if j < i then j else j + 1)) (fun j hj => by
          have a1 := h1 (if j < i then j else j + 1) (by split <;> omega)
          have a2 : f (if j < i then j else j + 1) ≠ m := by
            split
            · next q => rw [← hf]; exact h2 j i q hi
            · next q => rw [← hf]; exact (h2 i (j + 1) (by omega) (by omega)).symm
          show f _ < m
          omega) (fun a b hab hb => by
            show f _ ≠ f _
            apply h2
            · split <;> split <;> omega
            · split <;> omega)
        omega
      · have := ih n f (fun j hj => by
          have a1 := h1 j hj
          have a2 : f j ≠ m := fun q => hx ⟨j, hj, q⟩
          omega) h2
        omega
section FS
variable {n : Nat} {w : Nat → Nat} {E : Nat → Nat → Nat} {c : Nat → Nat → Prop} {D H : Nat → Nat → Nat}
theorem Fst.tD (h : Fst n w E c D H) : TR (fun x => x < n) E c D := h.2.2.2.1
theorem Fst.tH (h : Fst n w E c D H) : TR (fun x => x < n) (un E) c H := h.2.2.2.2
theorem Fst.le (h : Fst n w E c D H) : n ≤ 12 := h.1.2
theorem Fst.walk (h : Fst n w E c D H) : ∀ (d : Nat) {x y : Nat}, c x y → ∀ k, k + d = H x y → ∃ z, z < n ∧ c z y ∧ H z y = k := by
  intro d
  induction d with
  | zero =>
    intro x y q k hk
    exact ⟨x, h.tH.v1 q, q, by omega⟩
  | succ d ih =>
    intro x y q k hk
    have hxy : x ≠ y := fun e => by
      subst e
      have := h.tH.d0 (h.tH.v1 q)
      omega
    obtain ⟨z, h1, h2⟩ := h.tH.a5 q hxy
    have h3 : un E x z = 1 := by have := un_le (E := E) x z; omega
    exact ih (h.tH.tr (h.tH.sy (h.tH.ed h1)) q) k (by omega)
theorem Fst.hlt (h : Fst n w E c D H) {x y : Nat} (q : c x y) : H x y < n := by
  classical
  have ex : ∀ k, ∃ z, k ≤ H x y → z < n ∧ H z y = k := fun k => by
    by_cases hk : k ≤ H x y
    · obtain ⟨z, h1, -, h2⟩ := h.walk (H x y - k) q k (by omega)
      exact ⟨z, fun _ => ⟨h1, h2⟩⟩
    · exact ⟨0, fun q => absurd q hk⟩
  have hf := fun k => Classical.choose_spec (ex k)
  have := pigeon n (H x y + 1) (fun k => Classical.choose (ex k)) (fun i hi => (hf i (by omega)).1) (fun i j hij hj e => by
    have a1 := (hf i (by omega)).2
    have a2 := (hf j (by omega)).2
    have e : Classical.choose (ex i) = Classical.choose (ex j) := e
    rw [e, a2] at a1
    omega)
  omega
theorem Fst.d99 (h : Fst n w E c D H) : ∀ (k : Nat) {x y : Nat}, H x y ≤ k → c x y → D x y ≤ 99 * H x y := by
  intro k
  induction k with
  | zero =>
    intro x y hk q
    have e := h.tH.d00 q (by omega)
    subst e
    have := h.tD.d0 (h.tD.v1 q)
    omega
  | succ k ih =>
    intro x y hk q
    by_cases e : x = y
    · subst e
      have := h.tD.d0 (h.tD.v1 q)
      omega
    · obtain ⟨z, h1, h2⟩ := h.tH.a5 q e
      have h3 : un E x z = 1 := by have := un_le (E := E) x z; omega
      have h4 : 0 < E x z := (un_pos x z).mpr h1
      have h5 := ih (by omega) (h.tH.tr (h.tH.sy (h.tH.ed h1)) q)
      have h6 := h.tD.a4' h4 q
      have h7 := h.2.2.1 x z
      omega
theorem Fst.dlt (h : Fst n w E c D H) {x y : Nat} (q : c x y) : D x y ≤ 1089 := by
  have h1 := h.hlt q
  have h2 := h.d99 _ (Nat.le_refl _) q
  have h3 := h.le
  omega
theorem Fst.hle (h : Fst n w E c D H) {x y : Nat} (q : c x y) : H x y ≤ 11 := by
  have h1 := h.hlt q
  have h3 := h.le
  omega
theorem Fst.e0 (h : Fst n w E c D H) {u v : Nat} (q : ¬ (u < n ∧ v < n)) : E u v = 0 := by
  rcases Nat.eq_zero_or_pos (E u v) with e | e
  · exact e
  · exact absurd ⟨h.tD.v1 (h.tD.ed e), h.tD.v2 (h.tD.ed e)⟩ q
theorem Fst.empty {n : Nat} {w : Nat → Nat} (hn : 1 ≤ n ∧ n ≤ 12) (hw : ∀ v, v < n → w v ≤ 99) : Fst n w (fun _ _ => 0) (fun x y => x = y ∧ x < n) (fun _ _ => 0) (fun _ _ => 0) := by
  have key : ∀ W : Nat → Nat → Nat, (∀ x y, W x y = 0) → TR (fun x => x < n) W (fun x y => x = y ∧ x < n) (fun _ _ => 0) := by
    intro W hW
    refine ⟨fun x hx => ⟨rfl, hx⟩, fun x y q => ⟨q.2, by rw [← q.1]; exact q.2⟩, fun x y q => ⟨q.1.symm, by rw [← q.1]; exact q.2⟩, fun x y z q q2 => ⟨q.1.trans q2.1, q.2⟩, fun x y q => ?_, fun x y => ?_, fun x _ => rfl, fun x y _ => rfl, fun x y z q _ => ?_, fun x y q q2 => absurd q.1 q2, fun x y z z' _ q => ?_⟩
    · rw [hW] at q; exact absurd q (Nat.lt_irrefl 0)
    · rw [hW, hW]
    · rw [hW] at q; exact absurd q (Nat.lt_irrefl 0)
    · rw [hW] at q; exact absurd q (Nat.lt_irrefl 0)
  exact ⟨hn, hw, fun _ _ => Nat.zero_le _, key _ (fun _ _ => rfl), key _ (fun _ _ => rfl)⟩
theorem updE_le {E : Nat → Nat → Nat} {u v k m : Nat} (h : ∀ x y, E x y ≤ m) (hk : k ≤ m) : ∀ x y, updE E u v k x y ≤ m := by
  intro x y
  unfold updE
  split
  · exact hk
  · exact h x y
theorem Fst.link (h : Fst n w E c D H) {u v k : Nat} (hu : u < n) (hv : v < n) (hn : ¬ c u v) (hk : 0 < k) (hk2 : k ≤ 99) : ∃ D' H' : Nat → Nat → Nat, Fst n w (updE E u v k) (fun x y => c x y ∨ (c x u ∧ c y v) ∨ (c x v ∧ c y u)) D' H' ∧ (∀ x y, c x y → D' x y = D x y) ∧ (∀ x y, c x u → c y v → D' x y = D x u + k + D v y) ∧ (∀ x y, c x v → c y u → D' x y = D x v + k + D u y) := by
  obtain ⟨D', h1, h2, h3, h4⟩ := h.tD.link hu hv hn hk
  obtain ⟨H', g1, -⟩ := h.tH.link hu hv hn (k := 1) (by decide)
  refine ⟨D', H', ⟨h.1, h.2.1, updE_le h.2.2.1 hk2, h1, ?_⟩, h2, h3, h4⟩
  rw [un_upd, if_pos hk]
  exact g1
theorem Fst.cut (h : Fst n w E c D H) {a b : Nat} (e : 0 < E a b) : Fst n w (updE E a b 0) (fun x y => c x y ∧ (c x a → (D x a < D x b ↔ D y a < D y b))) D H := by
  have g := h.tH.cut ((un_pos a b).mp e)
  have hc : (fun x y => c x y ∧ (c x a → (H x a < H x b ↔ H y a < H y b))) = (fun x y => c x y ∧ (c x a → (D x a < D x b ↔ D y a < D y b))) := by
    funext x y
    apply propext
    have side : ∀ z, c z a → (H z a < H z b ↔ D z a < D z b) := by
      intro z q
      have i1 := un_1 e
      have i2 := h.tD.a4 e q
      have i3 := h.tH.a4 ((un_pos a b).mp e) q
      have s1 := h.tD.ds q
      have s2 := h.tD.ds (h.tD.tr q (h.tD.ed e))
      have s3 := h.tH.ds q
      have s4 := h.tH.ds (h.tD.tr q (h.tD.ed e))
      have i4 := h.tD.near' h.tH (un_pos (E := E)) (h.tD.sy q) e
      omega
    refine ⟨fun q => ⟨q.1, fun q2 => ?_⟩, fun q => ⟨q.1, fun q2 => ?_⟩⟩
    · rw [← side x q2, ← side y (h.tD.tr (h.tD.sy q.1) q2)]; exact q.2 q2
    · rw [side x q2, side y (h.tD.tr (h.tD.sy q.1) q2)]; exact q.2 q2
  refine ⟨h.1, h.2.1, updE_le h.2.2.1 (by decide), h.tD.cut e, ?_⟩
  rw [un_upd, if_neg (Nat.lt_irrefl 0), ← hc]
  exact g
theorem Fst.wt (h : Fst n w E c D H) {v k : Nat} (hk : k ≤ 99) : Fst n (updW w v k) E c D H := by
  refine ⟨h.1, fun x hx => ?_, h.2.2⟩
  unfold updW
  split
  · exact hk
  · exact h.2.1 x hx
theorem Fst.wcong (h : Fst n w E c D H) {w' : Nat → Nat} (hw : ∀ v, v < n → w' v = w v) : Fst n w' E c D H := ⟨h.1, fun x hx => by rw [hw x hx]; exact h.2.1 x hx, h.2.2⟩
/-- an edge is given another weight -/
theorem Fst.rew (h : Fst n w E c D H) {a b k : Nat} (e : 0 < E a b) (hk : 0 < k) (hk2 : k ≤ 99) : ∃ D' : Nat → Nat → Nat, Fst n w (updE E a b k) c D' H ∧ (∀ x y, c x y → (c x a → (D x a < D x b ↔ D y a < D y b)) → D' x y = D x y) ∧ (∀ x y, c x a → c y a → D x a < D x b → ¬ D y a < D y b → D' x y = D x a + k + D b y) ∧ (∀ x y, c x a → c y a → ¬ D x a < D x b → D y a < D y b → D' x y = D x b + k + D a y) := by
  have h1 := h.cut e
  have ca := h.tD.ed e
  have sa : D a a < D a b := by
    have := h.tD.d0 (h.tD.v1 ca)
    have := h.tD.de e
    omega
  have sb : ¬ D b a < D b b := by
    have := h.tD.d0 (h.tD.v2 ca)
    omega
  have hn : ¬ (c a b ∧ (c a a → (D a a < D a b ↔ D b a < D b b))) := fun q => sb ((q.2 (h.tD.rf (h.tD.v1 ca))).mp sa)
  obtain ⟨D', H', g1, g2, g3, g4⟩ := h1.link (h.tD.v1 ca) (h.tD.v2 ca) hn hk hk2
  have hE : updE (updE E a b 0) a b k = updE E a b k := by
    funext x y
    unfold updE
    split
    · rfl
    · rfl
  rw [hE] at g1
  have inA : ∀ x, c x a → D x a < D x b → (c x a ∧ (c x a → (D x a < D x b ↔ D a a < D a b))) := fun x q q2 => ⟨q, fun _ => ⟨fun _ => sa, fun _ => q2⟩⟩
  have inB : ∀ x, c x a → ¬ D x a < D x b → (c x b ∧ (c x a → (D x a < D x b ↔ D b a < D b b))) := fun x q q2 => ⟨h.tD.tr q ca, fun _ => ⟨fun z => absurd z q2, fun z => absurd z sb⟩⟩
  have hc : (fun x y => (c x y ∧ (c x a → (D x a < D x b ↔ D y a < D y b))) ∨ ((c x a ∧ (c x a → (D x a < D x b ↔ D a a < D a b))) ∧ (c y b ∧ (c y a → (D y a < D y b ↔ D b a < D b b)))) ∨ ((c x b ∧ (c x a → (D x a < D x b ↔ D b a < D b b))) ∧ (c y a ∧ (c y a → (D y a < D y b ↔ D a a < D a b))))) = c := by
    funext x y
    apply propext
    refine ⟨fun q => ?_, fun q => ?_⟩
    · rcases q with q | q | q
      · exact q.1
      · exact h.tD.tr q.1.1 (h.tD.tr ca (h.tD.sy q.2.1))
      · exact h.tD.tr q.1.1 (h.tD.tr (h.tD.sy ca) (h.tD.sy q.2.1))
    · by_cases q1 : c x a
      · have q2 := h.tD.tr (h.tD.sy q) q1
        by_cases q3 : D x a < D x b <;> by_cases q4 : D y a < D y b
        · exact Or.inl ⟨q, fun _ => ⟨fun _ => q4, fun _ => q3⟩⟩
        · exact Or.inr (Or.inl ⟨inA x q1 q3, inB y q2 q4⟩)
        · exact Or.inr (Or.inr ⟨inB x q1 q3, inA y q2 q4⟩)
        · exact Or.inl ⟨q, fun _ => ⟨fun z => absurd z q3, fun z => absurd z q4⟩⟩
      · exact Or.inl ⟨q, fun z => absurd z q1⟩
  rw [hc] at g1
  have hU : un (updE E a b k) = un E := by
    rw [un_upd, if_pos hk]
    funext x y
    unfold updE
    split
    · next z => rcases z with ⟨rfl, rfl⟩ | ⟨rfl, rfl⟩
                · exact (un_1 e).symm
                · exact (un_1 (by rw [h.tD.ws]; exact e)).symm
    · rfl
  refine ⟨D', ⟨g1.1, g1.2.1, g1.2.2.1, g1.tD, by rw [hU]; exact h.tH⟩, fun x y q q2 => g2 x y ⟨q, q2⟩, fun x y q q2 q3 q4 => g3 x y (inA x q q3) (inB y q2 q4), fun x y q q2 q3 q4 => g4 x y (inB x q q3) (inA y q2 q4)⟩
end FS
