/-! Survey: what it answers -/
noncomputable def ifc {α : Type} (p : Prop) (a b : α) : α := @ite α p (Classical.propDecidable p) a b
theorem ifc_t {α : Type} {p : Prop} {a b : α} (h : p) : ifc p a b = a := if_pos h
theorem ifc_f {α : Type} {p : Prop} {a b : α} (h : ¬ p) : ifc p a b = b := if_neg h
/-- the greatest, the sum of f over p below k -/
noncomputable def mxO (p : Nat → Prop) (f : Nat → Nat) : Nat → Nat
  | 0 => 0
  | k + 1 => ifc (p k) (max (mxO p f k) (f k)) (mxO p f k)
noncomputable def smO (p : Nat → Prop) (f : Nat → Nat) : Nat → Nat
  | 0 => 0
  | k + 1 => smO p f k + ifc (p k) (f k) 0
theorem mxO_ub {p : Nat → Prop} {f : Nat → Nat} : ∀ {k x : Nat}, x < k → p x → f x ≤ mxO p f k
  | 0, x, h, _ => absurd h (Nat.not_lt_zero x)
  | k + 1, x, h, hp => by
    unfold mxO
    by_cases e : x = k
    · subst e; rw [ifc_t hp]; omega
    · have := mxO_ub (k := k) (x := x) (p := p) (f := f) (by omega) hp
      by_cases q : p k
      · rw [ifc_t q]; omega
      · rw [ifc_f q]; exact this
theorem mxO_at {p : Nat → Prop} {f : Nat → Nat} : ∀ {k : Nat}, (∃ x, x < k ∧ p x) → ∃ x, x < k ∧ p x ∧ f x = mxO p f k
  | 0, h => absurd h.choose_spec.1 (Nat.not_lt_zero _)
  | k + 1, h => by
    unfold mxO
    by_cases q : p k
    · rw [ifc_t q]
      by_cases g : ∃ x, x < k ∧ p x
      · obtain ⟨x, h1, h2, h3⟩ := mxO_at (f := f) g
        rcases Nat.le_total (mxO p f k) (f k) with z | z
        · exact ⟨k, Nat.lt_succ_self k, q, by omega⟩
        · exact ⟨x, by omega, h2, by omega⟩
      · have e : mxO p f k ≤ f k ∨ f k < mxO p f k := by omega
        rcases e with z | z
        · exact ⟨k, Nat.lt_succ_self k, q, by omega⟩
        · exfalso
          have key : ∀ j, (∀ x, x < j → ¬ p x) → mxO p f j = 0 := by
            intro j
            induction j with
            | zero => intro _; rfl
            | succ j ih => intro hj; unfold mxO; rw [ifc_f (hj j (Nat.lt_succ_self j))]; exact ih (fun x hx => hj x (by omega))
          rw [key k (fun x hx hp => g ⟨x, hx, hp⟩)] at z
          exact absurd z (Nat.not_lt_zero _)
    · rw [ifc_f q]
      obtain ⟨x, h1, h2⟩ := h
      have : x ≠ k := fun e => q (by rw [← e]; exact h2)
      obtain ⟨y, h3, h4, h5⟩ := mxO_at (p := p) (f := f) (k := k) ⟨x, by omega, h2⟩
      exact ⟨y, by omega, h4, h5⟩
theorem mxO_le {p : Nat → Prop} {f : Nat → Nat} {B : Nat} : ∀ {k : Nat}, (∀ x, x < k → p x → f x ≤ B) → mxO p f k ≤ B
  | 0, _ => Nat.zero_le _
  | k + 1, h => by
    have := mxO_le (k := k) (p := p) (f := f) (B := B) (fun x hx => h x (by omega))
    unfold mxO
    by_cases q : p k
    · rw [ifc_t q]; have := h k (Nat.lt_succ_self k) q; omega
    · rw [ifc_f q]; exact this
theorem mxO_cong {p q : Nat → Prop} {f g : Nat → Nat} : ∀ {k : Nat}, (∀ x, x < k → (p x ↔ q x)) → (∀ x, x < k → p x → f x = g x) → mxO p f k = mxO q g k
  | 0, _, _ => rfl
  | k + 1, h1, h2 => by
    unfold mxO
    rw [mxO_cong (k := k) (fun x hx => h1 x (by omega)) (fun x hx => h2 x (by omega))]
    by_cases c : p k
    · rw [ifc_t c, ifc_t ((h1 k (Nat.lt_succ_self k)).mp c), h2 k (Nat.lt_succ_self k) c]
    · rw [ifc_f c, ifc_f (fun z => c ((h1 k (Nat.lt_succ_self k)).mpr z))]
theorem smO_cong {p q : Nat → Prop} {f g : Nat → Nat} : ∀ {k : Nat}, (∀ x, x < k → (p x ↔ q x)) → (∀ x, x < k → p x → f x = g x) → smO p f k = smO q g k
  | 0, _, _ => rfl
  | k + 1, h1, h2 => by
    unfold smO
    rw [smO_cong (k := k) (fun x hx => h1 x (by omega)) (fun x hx => h2 x (by omega))]
    by_cases c : p k
    · rw [ifc_t c, ifc_t ((h1 k (Nat.lt_succ_self k)).mp c), h2 k (Nat.lt_succ_self k) c]
    · rw [ifc_f c, ifc_f (fun z => c ((h1 k (Nat.lt_succ_self k)).mpr z))]
theorem smO_le {p : Nat → Prop} {f : Nat → Nat} {B : Nat} : ∀ {k : Nat}, (∀ x, x < k → p x → f x ≤ B) → smO p f k ≤ k * B
  | 0, _ => Nat.zero_le _
  | k + 1, h => by
    have := smO_le (k := k) (p := p) (f := f) (B := B) (fun x hx => h x (by omega))
    unfold smO
    rw [Nat.succ_mul]
    by_cases q : p k
    · rw [ifc_t q]; have := h k (Nat.lt_succ_self k) q; omega
    · rw [ifc_f q]; omega
/-- the first of the greatest, of the least -/
def AMax (p : Nat → Prop) (f : Nat → Nat) (k r : Nat) : Prop := r < k ∧ p r ∧ (∀ x, x < k → p x → f x ≤ f r) ∧ ∀ x, x < r → p x → f x < f r
def AMin (p : Nat → Prop) (f : Nat → Nat) (k r : Nat) : Prop := r < k ∧ p r ∧ (∀ x, x < k → p x → f r ≤ f x) ∧ ∀ x, x < r → p x → f r < f x
section AM
variable {p : Nat → Prop} {f : Nat → Nat} {k r r' : Nat}
theorem AMax.keep (h : AMax p f k r) (q : p k → f k ≤ f r) : AMax p f (k + 1) r := by
  obtain ⟨h1, h2, h3, h4⟩ := h
  refine ⟨by omega, h2, fun x hx hp => ?_, h4⟩
  by_cases e : x = k
  · subst e; exact q hp
  · exact h3 x (by omega) hp
theorem AMax.new (h : AMax p f k r) (hp : p k) (q : f r < f k) : AMax p f (k + 1) k := by
  obtain ⟨h1, h2, h3, h4⟩ := h
  refine ⟨Nat.lt_succ_self k, hp, fun x hx hp => ?_, fun x hx hp => ?_⟩
  · by_cases e : x = k
    · subst e; exact Nat.le_refl _
    · have := h3 x (by omega) hp; omega
  · have := h3 x hx hp; omega
theorem AMax.first (h : ∀ x, x < k → ¬ p x) (hp : p k) : AMax p f (k + 1) k := by
  refine ⟨Nat.lt_succ_self k, hp, fun x hx hp => ?_, fun x hx hp => absurd hp (h x hx)⟩
  by_cases e : x = k
  · subst e; exact Nat.le_refl _
  · exact absurd hp (h x (by omega))
theorem AMin.keep (h : AMin p f k r) (q : p k → f r ≤ f k) : AMin p f (k + 1) r := by
  obtain ⟨h1, h2, h3, h4⟩ := h
  refine ⟨by omega, h2, fun x hx hp => ?_, h4⟩
  by_cases e : x = k
  · subst e; exact q hp
  · exact h3 x (by omega) hp
theorem AMin.new (h : AMin p f k r) (hp : p k) (q : f k < f r) : AMin p f (k + 1) k := by
  obtain ⟨h1, h2, h3, h4⟩ := h
  refine ⟨Nat.lt_succ_self k, hp, fun x hx hp => ?_, fun x hx hp => ?_⟩
  · by_cases e : x = k
    · subst e; exact Nat.le_refl _
    · have := h3 x (by omega) hp; omega
  · have := h3 x hx hp; omega
theorem AMin.first (h : ∀ x, x < k → ¬ p x) (hp : p k) : AMin p f (k + 1) k := by
  refine ⟨Nat.lt_succ_self k, hp, fun x hx hp => ?_, fun x hx hp => absurd hp (h x hx)⟩
  by_cases e : x = k
  · subst e; exact Nat.le_refl _
  · exact absurd hp (h x (by omega))
theorem AMax.uq (h : AMax p f k r) (h' : AMax p f k r') : r = r' := by
  obtain ⟨a1, a2, a3, a4⟩ := h
  obtain ⟨b1, b2, b3, b4⟩ := h'
  have c1 := a3 r' b1 b2
  have c2 := b3 r a1 a2
  rcases Nat.lt_trichotomy r r' with e | e | e
  · have := b4 r e a2; omega
  · exact e
  · have := a4 r' e b2; omega
theorem AMin.uq (h : AMin p f k r) (h' : AMin p f k r') : r = r' := by
  obtain ⟨a1, a2, a3, a4⟩ := h
  obtain ⟨b1, b2, b3, b4⟩ := h'
  have c1 := a3 r' b1 b2
  have c2 := b3 r a1 a2
  rcases Nat.lt_trichotomy r r' with e | e | e
  · have := b4 r e a2; omega
  · exact e
  · have := a4 r' e b2; omega
theorem AMax.mx (h : AMax p f k r) : mxO p f k = f r := by
  obtain ⟨x, h1, h2, h3⟩ := mxO_at (f := f) ⟨r, h.1, h.2.1⟩
  have := h.2.2.1 x h1 h2
  have := mxO_ub (f := f) h.1 h.2.1
  omega
end AM
section CS
variable {l : Launch} {G : Gx} {s n : Nat} {mem : Mem} {w : Nat → Nat} {E : Nat → Nat → Nat} {c : Nat → Nat → Prop} {D H : Nat → Nat → Nat}
theorem c_between (hs : Sv G s) (hv : SvAt mem s n c D) (F : Fst n w E c D H) {u v : Nat} (hu : u < 2147483648) (hv2 : v < 2147483648) : CtI l M_X5_between G [.ref (gA G s), .int (nI u), .int (nI v)] mem (fun r m => m = mem ∧ r = ifc (c u v) (nI (D u v)) 1000000) := by
  have hn := F.le
  refine CtI_of (by decide) (Nat.le_of_ble_eq_true rfl) rfl (t_X5_between_0 hs _ _ mem ?_)
  rw [hv.1]
  have far : ¬ (u < n ∧ v < n) → ifc (c u v) (nI (D u v)) (1000000 : Int32) = 1000000 := fun q => ifc_f (fun z => q ⟨F.tD.v1 z, F.tD.v2 z⟩)
  simp (disch := omega) only [i_lt, i_le, i_nI, i_0]
  refine ⟨fun a => by omega, fun _ => ⟨fun a => ⟨trivial, (far (by omega)).symm⟩, fun a => ⟨fun b => by omega, fun _ => ⟨fun b => ⟨i_in (by omega) (by decide), i_in (by omega) (by decide), trivial, ?_⟩, fun b => ⟨trivial, (far (by omega)).symm⟩⟩⟩⟩⟩
  rw [i_cl (by omega), i_cl (by omega)]
  by_cases q : c u v
  · rw [ifc_t q, (hv.2 u v (by omega) (by omega)).1 q]
  · rw [ifc_f q, (hv.2 u v (by omega) (by omega)).2 q]
theorem ifc_10 {p : Prop} : ifc p (1 : Int32) 0 = 0 ↔ ¬ p := by
  by_cases q : p
  · rw [ifc_t q]; exact ⟨fun z => absurd z (by decide), fun z => absurd q z⟩
  · rw [ifc_f q]; exact ⟨fun _ => q, fun _ => rfl⟩
theorem c_joined (hs : Sv G s) (hv : SvAt mem s n c D) (F : Fst n w E c D H) {u v : Nat} (hu : u < 2147483648) (hv2 : v < 2147483648) : CtI l M_X5_joined G [.ref (gA G s), .int (nI u), .int (nI v)] mem (fun r m => m = mem ∧ r = ifc (c u v) 1 0) := by
  refine CtI_of (by decide) (Nat.le_of_ble_eq_true rfl) rfl (t_X5_joined_0 hs _ _ mem ⟨_, c_between hs hv F hu hv2, ?_⟩)
  rintro r m ⟨rfl, rfl⟩
  by_cases q : c u v
  · have := F.dlt q
    rw [ifc_t q, ifc_t q, i_le, i_nI (by omega), i_1000000]
    exact ⟨fun z => by omega, fun _ => ⟨rfl, rfl⟩⟩
  · rw [ifc_f q, ifc_f q]
    exact ⟨fun _ => ⟨rfl, rfl⟩, fun z => absurd (by decide) z⟩
/-- a branch on whether u and v are of one tree -/
theorem jn {p A B : Prop} (a : ¬ p → A) (b : p → B) : (ifc p (1 : Int32) 0 = 0 → A) ∧ (¬ ifc p (1 : Int32) 0 = 0 → B) :=
  ⟨fun z => a (ifc_10.mp z), fun z => b (Classical.byContradiction fun q => z (ifc_10.mpr q))⟩
theorem jn' {p A B : Prop} (a : ¬ p → A) (b : p → B) : (¬ ifc p (1 : Int32) 0 = 0 → B) ∧ (ifc p (1 : Int32) 0 = 0 → A) := ⟨(jn a b).2, (jn a b).1⟩
theorem c_smallestJoined (hs : Sv G s) (hv : SvAt mem s n c D) (F : Fst n w E c D H) {v : Nat} (hv2 : v < n) : CtI l M_X5_smallestJoined G [.ref (gA G s), .int (nI v)] mem (fun r m => m = mem ∧ ∃ q, q < n ∧ r = nI q ∧ c v q ∧ ∀ x, x < q → ¬ c v x) := by
  have hn := F.le
  refine CtI_of (by decide) (Nat.le_of_ble_eq_true rfl) rfl (t_X5_smallestJoined_0 hs _ mem ?_)
  refine up_loop (P := fun k => (∀ x, x < k → ¬ c v x) → XI l M_X5_smallestJoined G _ mem 2 [(0, .ref (gA G s)), (1, .int (nI v)), (2, .int (nI k))] []) (n := v) (Nat.zero_le _) ?_ ?_ (fun x hx => absurd hx (Nat.not_lt_zero _))
  · intro hx
    exact t_X5_smallestJoined_2 hs _ _ mem ⟨fun _ => ⟨rfl, v, hv2, rfl, F.tD.rf hv2, hx⟩, fun z => absurd ((i_nle (by omega) (by omega)).mpr (Nat.le_refl _)) z⟩
  · intro k _ hk ih hx
    refine t_X5_smallestJoined_2 hs _ _ mem ⟨fun z => absurd ((i_nle (by omega) (by omega)).mp z) (by omega), fun _ => ⟨_, c_joined hs hv F (by omega) (by omega), ?_⟩⟩
    rintro r m ⟨rfl, rfl⟩
    rw [nI_1]
    refine jn (fun q => ih (fun x hx2 => ?_)) (fun q => ⟨rfl, k, by omega, rfl, F.tD.sy q, hx⟩)
    by_cases e : x = k
    · subst e; exact fun z => q (F.tD.sy z)
    · exact hx x (by omega)
noncomputable def Ecc (n : Nat) (c : Nat → Nat → Prop) (D : Nat → Nat → Nat) (u : Nat) : Nat := mxO (c u) (D u) n
theorem Ecc_le (F : Fst n w E c D H) (u : Nat) : Ecc n c D u ≤ 1089 := mxO_le (fun _ _ q => F.dlt q)
theorem c_firstFarthest (hs : Sv G s) (hv : SvAt mem s n c D) (F : Fst n w E c D H) {v : Nat} (hv2 : v < n) : CtI l M_X5_firstFarthest G [.ref (gA G s), .int (nI v)] mem (fun r m => m = mem ∧ ∃ q, r = nI q ∧ AMax (c v) (D v) n q) := by
  have hn := F.le
  refine CtI_of (by decide) (Nat.le_of_ble_eq_true rfl) rfl (t_X5_firstFarthest_0 hs _ mem ?_)
  refine up_loop (P := fun k => ∀ a b : Int32, ((b = -1 ∧ ∀ x, x < k → ¬ c v x) ∨ ∃ q, a = nI q ∧ b = nI (D v q) ∧ AMax (c v) (D v) k q) → XI l M_X5_firstFarthest G _ mem 7 [(0, .ref (gA G s)), (1, .int (nI v)), (2, .int a), (3, .int b), (4, .int (nI k))] []) (n := n) (Nat.zero_le _) ?_ ?_ _ _ (Or.inl ⟨rfl, fun x hx => absurd hx (Nat.not_lt_zero _)⟩)
  · intro a b h
    refine t_X5_firstFarthest_7 hs _ _ _ _ mem ?_
    rw [hv.1]
    refine ⟨fun _ => ⟨rfl, ?_⟩, fun z => absurd ((i_nle (by omega) (by omega)).mpr (Nat.le_refl _)) z⟩
    rcases h with h | ⟨q, h1, h2, h3⟩
    · exact absurd (F.tD.rf hv2) (h.2 v hv2)
    · exact ⟨q, h1, h3⟩
  · intro k _ hk ih a b h
    refine t_X5_firstFarthest_7 hs _ _ _ _ mem ?_
    rw [hv.1]
    refine ⟨fun z => absurd ((i_nle (by omega) (by omega)).mp z) (by omega), fun _ => ⟨_, c_between hs hv F (by omega) (by omega), ?_⟩⟩
    rintro r m ⟨rfl, rfl⟩
    rw [nI_1]
    by_cases q : c k v
    · have q2 := F.tD.sy q
      have e := F.tD.ds q
      have bd := F.dlt q
      rw [ifc_t q]
      refine ⟨fun z => by rw [i_le, i_nI (by omega), i_1000000] at z; omega, fun _ => ?_⟩
      rw [e] at bd ⊢
      rcases h with h | ⟨x, rfl, rfl, h3⟩
      · rw [h.1]
        refine ⟨fun z => by rw [i_le, i_nI (by omega), i_m1] at z; omega, fun _ => ih _ _ (Or.inr ⟨k, rfl, rfl, AMax.first h.2 q2⟩)⟩
      · have bd2 := F.dlt h3.2.1
        rw [i_nle (by omega) (by omega)]
        exact ⟨fun z => ih _ _ (Or.inr ⟨x, rfl, rfl, h3.keep (fun _ => z)⟩), fun z => ih _ _ (Or.inr ⟨k, rfl, rfl, h3.new q2 (by omega)⟩)⟩
    · rw [ifc_f q]
      refine ⟨fun _ => ih _ _ ?_, fun z => absurd (by decide) z⟩
      rcases h with h | ⟨x, rfl, rfl, h3⟩
      · refine Or.inl ⟨h.1, fun x hx => ?_⟩
        by_cases e : x = k
        · subst e; exact fun z => q (F.tD.sy z)
        · exact h.2 x (by omega)
      · exact Or.inr ⟨x, rfl, rfl, h3.keep (fun z => absurd (F.tD.sy z) q)⟩
theorem c_greatestFrom (hs : Sv G s) (hv : SvAt mem s n c D) (F : Fst n w E c D H) {v : Nat} (hv2 : v < n) : CtI l M_X5_greatestFrom G [.ref (gA G s), .int (nI v)] mem (fun r m => m = mem ∧ r = nI (Ecc n c D v)) := by
  have hn := F.le
  refine CtI_of (by decide) (Nat.le_of_ble_eq_true rfl) rfl (t_X5_greatestFrom_0 hs _ mem ⟨_, c_firstFarthest hs hv F hv2, ?_⟩)
  rintro r m ⟨rfl, q, rfl, hq⟩
  refine ⟨_, c_between hs hv F (by omega) (by have := hq.1; omega), ?_⟩
  rintro r m ⟨rfl, rfl⟩
  refine ⟨rfl, ?_⟩
  rw [ifc_t hq.2.1]
  unfold Ecc
  rw [hq.mx]
theorem c_firstWideEnd (hs : Sv G s) (hv : SvAt mem s n c D) (F : Fst n w E c D H) {v : Nat} (hv2 : v < n) : CtI l M_X5_firstWideEnd G [.ref (gA G s), .int (nI v)] mem (fun r m => m = mem ∧ ∃ q, r = nI q ∧ AMax (c v) (Ecc n c D) n q) := by
  have hn := F.le
  refine CtI_of (by decide) (Nat.le_of_ble_eq_true rfl) rfl (t_X5_firstWideEnd_0 hs _ mem ?_)
  refine up_loop (P := fun k => ∀ a b : Int32, ((b = -1 ∧ ∀ x, x < k → ¬ c v x) ∨ ∃ q, a = nI q ∧ b = nI (Ecc n c D q) ∧ AMax (c v) (Ecc n c D) k q) → XI l M_X5_firstWideEnd G _ mem 7 [(0, .ref (gA G s)), (1, .int (nI v)), (2, .int a), (3, .int b), (4, .int (nI k))] []) (n := n) (Nat.zero_le _) ?_ ?_ _ _ (Or.inl ⟨rfl, fun x hx => absurd hx (Nat.not_lt_zero _)⟩)
  · intro a b h
    refine t_X5_firstWideEnd_7 hs _ _ _ _ mem ?_
    rw [hv.1]
    refine ⟨fun _ => ⟨rfl, ?_⟩, fun z => absurd ((i_nle (by omega) (by omega)).mpr (Nat.le_refl _)) z⟩
    rcases h with h | ⟨q, h1, h2, h3⟩
    · exact absurd (F.tD.rf hv2) (h.2 v hv2)
    · exact ⟨q, h1, h3⟩
  · intro k _ hk ih a b h
    refine t_X5_firstWideEnd_7 hs _ _ _ _ mem ?_
    rw [hv.1]
    refine ⟨fun z => absurd ((i_nle (by omega) (by omega)).mp z) (by omega), fun _ => ⟨_, c_joined hs hv F (by omega) (by omega), ?_⟩⟩
    rintro r m ⟨rfl, rfl⟩
    rw [nI_1]
    refine jn (fun q => ih _ _ ?_) (fun q => ⟨_, c_greatestFrom hs hv F hk, ?_⟩)
    · rcases h with h | ⟨x, rfl, rfl, h3⟩
      · refine Or.inl ⟨h.1, fun x hx => ?_⟩
        by_cases e : x = k
        · subst e; exact fun z => q (F.tD.sy z)
        · exact h.2 x (by omega)
      · exact Or.inr ⟨x, rfl, rfl, h3.keep (fun z => absurd (F.tD.sy z) q)⟩
    · rintro r m ⟨rfl, rfl⟩
      have b1 := Ecc_le F k
      have q2 := F.tD.sy q
      have go : ∀ a b : Int32, ((b = -1 ∧ ∀ x, x < k + 1 → ¬ c v x) ∨ ∃ q, a = nI q ∧ b = nI (Ecc n c D q) ∧ AMax (c v) (Ecc n c D) (k + 1) q) → XI l M_X5_firstWideEnd G _ m 7 [(0, .ref (gA G s)), (1, .int (nI v)), (2, .int a), (3, .int b), (4, .int (nI (k + 1)))] [] := ih
      rcases h with h | ⟨x, rfl, rfl, h3⟩
      · rw [h.1]
        refine ⟨fun z => by rw [i_le, i_nI (by omega), i_m1] at z; omega, fun _ => ⟨_, c_greatestFrom hs hv F hk, ?_⟩⟩
        rintro r m ⟨rfl, rfl⟩
        exact go _ _ (Or.inr ⟨k, rfl, rfl, AMax.first h.2 q2⟩)
      · have b2 := Ecc_le F x
        rw [i_nle (by omega) (by omega)]
        refine ⟨fun z => go _ _ (Or.inr ⟨x, rfl, rfl, h3.keep (fun _ => z)⟩), fun z => ⟨_, c_greatestFrom hs hv F hk, ?_⟩⟩
        rintro r m ⟨rfl, rfl⟩
        exact go _ _ (Or.inr ⟨k, rfl, rfl, h3.new q2 (by omega)⟩)
theorem c_widthAround (hs : Sv G s) (hv : SvAt mem s n c D) (F : Fst n w E c D H) {v : Nat} (hv2 : v < n) : CtI l M_X5_widthAround G [.ref (gA G s), .int (nI v)] mem (fun r m => m = mem ∧ r = nI (mxO (c v) (Ecc n c D) n)) := by
  refine CtI_of (by decide) (Nat.le_of_ble_eq_true rfl) rfl (t_X5_widthAround_0 hs _ mem ⟨_, c_firstWideEnd hs hv F hv2, ?_⟩)
  rintro r m ⟨rfl, q, rfl, hq⟩
  refine ⟨_, c_greatestFrom hs hv F hq.1, ?_⟩
  rintro r m ⟨rfl, rfl⟩
  exact ⟨rfl, by rw [hq.mx]⟩
theorem c_middleOf (hs : Sv G s) (hv : SvAt mem s n c D) (F : Fst n w E c D H) {v : Nat} (hv2 : v < n) : CtI l M_X5_middleOf G [.ref (gA G s), .int (nI v)] mem (fun r m => m = mem ∧ ∃ q, r = nI q ∧ AMin (c v) (Ecc n c D) n q) := by
  have hn := F.le
  refine CtI_of (by decide) (Nat.le_of_ble_eq_true rfl) rfl (t_X5_middleOf_0 hs _ mem ?_)
  refine up_loop (P := fun k => ∀ a b : Int32, ((b = 1000000000 ∧ ∀ x, x < k → ¬ c v x) ∨ ∃ q, a = nI q ∧ b = nI (Ecc n c D q) ∧ AMin (c v) (Ecc n c D) k q) → XI l M_X5_middleOf G _ mem 8 [(0, .ref (gA G s)), (1, .int (nI v)), (2, .int a), (3, .int b), (4, .int (nI k))] []) (n := n) (Nat.zero_le _) ?_ ?_ _ _ (Or.inl ⟨rfl, fun x hx => absurd hx (Nat.not_lt_zero _)⟩)
  · intro a b h
    refine t_X5_middleOf_8 hs _ _ _ _ mem ?_
    rw [hv.1]
    refine ⟨fun _ => ⟨rfl, ?_⟩, fun z => absurd ((i_nle (by omega) (by omega)).mpr (Nat.le_refl _)) z⟩
    rcases h with h | ⟨q, h1, h2, h3⟩
    · exact absurd (F.tD.rf hv2) (h.2 v hv2)
    · exact ⟨q, h1, h3⟩
  · intro k _ hk ih a b h
    refine t_X5_middleOf_8 hs _ _ _ _ mem ?_
    rw [hv.1]
    refine ⟨fun z => absurd ((i_nle (by omega) (by omega)).mp z) (by omega), fun _ => ⟨_, c_joined hs hv F (by omega) (by omega), ?_⟩⟩
    rintro r m ⟨rfl, rfl⟩
    rw [nI_1]
    refine jn (fun q => ih _ _ ?_) (fun q => ⟨_, c_greatestFrom hs hv F hk, ?_⟩)
    · rcases h with h | ⟨x, rfl, rfl, h3⟩
      · refine Or.inl ⟨h.1, fun x hx => ?_⟩
        by_cases e : x = k
        · subst e; exact fun z => q (F.tD.sy z)
        · exact h.2 x (by omega)
      · exact Or.inr ⟨x, rfl, rfl, h3.keep (fun z => absurd (F.tD.sy z) q)⟩
    · rintro r m ⟨rfl, rfl⟩
      have b1 := Ecc_le F k
      have q2 := F.tD.sy q
      have go : ∀ a b : Int32, ((b = 1000000000 ∧ ∀ x, x < k + 1 → ¬ c v x) ∨ ∃ q, a = nI q ∧ b = nI (Ecc n c D q) ∧ AMin (c v) (Ecc n c D) (k + 1) q) → XI l M_X5_middleOf G _ m 8 [(0, .ref (gA G s)), (1, .int (nI v)), (2, .int a), (3, .int b), (4, .int (nI (k + 1)))] [] := ih
      rcases h with h | ⟨x, rfl, rfl, h3⟩
      · rw [h.1]
        refine ⟨fun z => by rw [i_le, i_nI (by omega), i_1000000000] at z; omega, fun _ => ⟨_, c_greatestFrom hs hv F hk, ?_⟩⟩
        rintro r m ⟨rfl, rfl⟩
        exact go _ _ (Or.inr ⟨k, rfl, rfl, AMin.first h.2 q2⟩)
      · have b2 := Ecc_le F x
        rw [i_nle (by omega) (by omega)]
        refine ⟨fun z => go _ _ (Or.inr ⟨x, rfl, rfl, h3.keep (fun _ => z)⟩), fun z => ⟨_, c_greatestFrom hs hv F hk, ?_⟩⟩
        rintro r m ⟨rfl, rfl⟩
        exact go _ _ (Or.inr ⟨k, rfl, rfl, h3.new q2 (by omega)⟩)
/-- the cost of a vertex -/
noncomputable def Cst (n : Nat) (w : Nat → Nat) (c : Nat → Nat → Prop) (D : Nat → Nat → Nat) (v : Nat) : Nat := smO (fun u => c u v) (fun u => w u * D u v) n
theorem wD_le (F : Fst n w E c D H) {u v : Nat} (hu : u < n) (q : c u v) : w u * D u v ≤ 107811 := by
  have h1 := F.2.1 u hu
  have h2 := F.dlt q
  calc w u * D u v ≤ 99 * 1089 := Nat.mul_le_mul h1 h2
    _ = 107811 := rfl
theorem Cst_le (F : Fst n w E c D H) (v : Nat) : Cst n w c D v ≤ 1293732 := by
  have h := smO_le (p := fun u => c u v) (f := fun u => w u * D u v) (B := 107811) (k := n) (fun x hx q => wD_le F hx q)
  have := F.le
  unfold Cst
  have h2 : n * 107811 ≤ 12 * 107811 := Nat.mul_le_mul_right _ this
  omega
theorem c_priceOf (hs : Sv G s) (hv : SvAt mem s n c D) (hf : FoAt mem (s - 15) n w E) (F : Fst n w E c D H) {v : Nat} (hv2 : v < n) : CtI l M_X5_priceOf G [.ref (gA G s), .int (nI v)] mem (fun r m => m = mem ∧ r = nI (Cst n w c D v)) := by
  have hn := F.le
  refine CtI_of (by decide) (Nat.le_of_ble_eq_true rfl) rfl (t_X5_priceOf_0 hs _ mem ?_)
  refine up_loop (P := fun k => XI l M_X5_priceOf G _ mem 4 [(0, .ref (gA G s)), (1, .int (nI v)), (2, .int (nI (smO (fun u => c u v) (fun u => w u * D u v) k))), (3, .int (nI k))] []) (n := n) (Nat.zero_le _) ?_ ?_
  · refine t_X5_priceOf_4 hs _ _ _ mem ?_
    rw [hv.1]
    exact ⟨fun _ => ⟨rfl, rfl⟩, fun z => absurd ((i_nle (by omega) (by omega)).mpr (Nat.le_refl _)) z⟩
  · intro k _ hk ih
    refine t_X5_priceOf_4 hs _ _ _ mem ?_
    rw [hv.1]
    refine ⟨fun z => absurd ((i_nle (by omega) (by omega)).mp z) (by omega), fun _ => ⟨_, c_joined hs hv F (by omega) (by omega), ?_⟩⟩
    rintro r m ⟨rfl, rfl⟩
    rw [nI_1]
    unfold smO at ih
    refine jn (fun q => ?_) (fun q => ⟨_, c_weightOf (Sv_Fo hs) hf hn hk, ?_⟩)
    · rw [ifc_f q] at ih; exact ih
    · rintro r m ⟨rfl, rfl⟩
      refine ⟨_, c_between hs hv F (by omega) (by omega), ?_⟩
      rintro r m ⟨rfl, rfl⟩
      rw [ifc_t q, pk_mul, nI_add]
      rw [ifc_t q] at ih
      exact ih
theorem c_cheapestOf (hs : Sv G s) (hv : SvAt mem s n c D) (hf : FoAt mem (s - 15) n w E) (F : Fst n w E c D H) {v : Nat} (hv2 : v < n) : CtI l M_X5_cheapestOf G [.ref (gA G s), .int (nI v)] mem (fun r m => m = mem ∧ ∃ q, r = nI q ∧ AMin (c v) (Cst n w c D) n q) := by
  have hn := F.le
  refine CtI_of (by decide) (Nat.le_of_ble_eq_true rfl) rfl (t_X5_cheapestOf_0 hs _ mem ?_)
  refine up_loop (P := fun k => ∀ a b : Int32, ((b = 1000000000 ∧ ∀ x, x < k → ¬ c v x) ∨ ∃ q, a = nI q ∧ b = nI (Cst n w c D q) ∧ AMin (c v) (Cst n w c D) k q) → XI l M_X5_cheapestOf G _ mem 8 [(0, .ref (gA G s)), (1, .int (nI v)), (2, .int a), (3, .int b), (4, .int (nI k))] []) (n := n) (Nat.zero_le _) ?_ ?_ _ _ (Or.inl ⟨rfl, fun x hx => absurd hx (Nat.not_lt_zero _)⟩)
  · intro a b h
    refine t_X5_cheapestOf_8 hs _ _ _ _ mem ?_
    rw [hv.1]
    refine ⟨fun _ => ⟨rfl, ?_⟩, fun z => absurd ((i_nle (by omega) (by omega)).mpr (Nat.le_refl _)) z⟩
    rcases h with h | ⟨q, h1, h2, h3⟩
    · exact absurd (F.tD.rf hv2) (h.2 v hv2)
    · exact ⟨q, h1, h3⟩
  · intro k _ hk ih a b h
    refine t_X5_cheapestOf_8 hs _ _ _ _ mem ?_
    rw [hv.1]
    refine ⟨fun z => absurd ((i_nle (by omega) (by omega)).mp z) (by omega), fun _ => ⟨_, c_joined hs hv F (by omega) (by omega), ?_⟩⟩
    rintro r m ⟨rfl, rfl⟩
    rw [nI_1]
    refine jn (fun q => ih _ _ ?_) (fun q => ⟨_, c_priceOf hs hv hf F hk, ?_⟩)
    · rcases h with h | ⟨x, rfl, rfl, h3⟩
      · refine Or.inl ⟨h.1, fun x hx => ?_⟩
        by_cases e : x = k
        · subst e; exact fun z => q (F.tD.sy z)
        · exact h.2 x (by omega)
      · exact Or.inr ⟨x, rfl, rfl, h3.keep (fun z => absurd (F.tD.sy z) q)⟩
    · rintro r m ⟨rfl, rfl⟩
      have b1 := Cst_le F k
      have q2 := F.tD.sy q
      have go : ∀ a b : Int32, ((b = 1000000000 ∧ ∀ x, x < k + 1 → ¬ c v x) ∨ ∃ q, a = nI q ∧ b = nI (Cst n w c D q) ∧ AMin (c v) (Cst n w c D) (k + 1) q) → XI l M_X5_cheapestOf G _ m 8 [(0, .ref (gA G s)), (1, .int (nI v)), (2, .int a), (3, .int b), (4, .int (nI (k + 1)))] [] := ih
      rcases h with h | ⟨x, rfl, rfl, h3⟩
      · rw [h.1]
        refine ⟨fun z => by rw [i_le, i_nI (by omega), i_1000000000] at z; omega, fun _ => ⟨_, c_priceOf hs hv hf F hk, ?_⟩⟩
        rintro r m ⟨rfl, rfl⟩
        exact go _ _ (Or.inr ⟨k, rfl, rfl, AMin.first h.2 q2⟩)
      · have b2 := Cst_le F x
        rw [i_nle (by omega) (by omega)]
        refine ⟨fun z => go _ _ (Or.inr ⟨x, rfl, rfl, h3.keep (fun _ => z)⟩), fun z => ⟨_, c_priceOf hs hv hf F hk, ?_⟩⟩
        rintro r m ⟨rfl, rfl⟩
        exact go _ _ (Or.inr ⟨k, rfl, rfl, h3.new q2 (by omega)⟩)
end CS
