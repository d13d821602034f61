/-! Survey: balanced cut, expected reach -/
theorem AMin.skip {p : Nat → Prop} {f : Nat → Nat} {k k' r : Nat} (h : AMin p f k r) (hk : k ≤ k') (q : ∀ x, k ≤ x → x < k' → ¬ p x) : AMin p f k' r := by
  obtain ⟨h1, h2, h3, h4⟩ := h
  refine ⟨by omega, h2, fun x hx hp => ?_, h4⟩
  by_cases e : x < k
  · exact h3 x e hp
  · exact absurd hp (q x (by omega) hx)
/-- the codes of the edges of the tree of v -/
def BP (E : Nat → Nat → Nat) (c : Nat → Nat → Prop) (v k : Nat) : Prop := k / 100 < k % 100 ∧ 0 < E (k / 100) (k % 100) ∧ c (k / 100) v
noncomputable def BL (n : Nat) (w : Nat → Nat) (c : Nat → Nat → Prop) (D : Nat → Nat → Nat) (k : Nat) : Nat := Load n w c D (k / 100) (k % 100)
def BalAns (n : Nat) (w : Nat → Nat) (E : Nat → Nat → Nat) (c : Nat → Nat → Prop) (D : Nat → Nat → Nat) (v : Nat) (r : Int32) : Prop := ((∀ x, x < 1200 → ¬ BP E c v x) ∧ r = -9) ∨ ∃ k, r = nI k ∧ AMin (BP E c v) (BL n w c D) 1200 k
section CS
variable {l : Launch} {G : Gx} {s n : Nat} {mem : Mem} {w : Nat → Nat} {E : Nat → Nat → Nat} {c : Nat → Nat → Prop} {D H : Nat → Nat → Nat}
theorem Load_le (F : Fst n w E c D H) (a b : Nat) : Load n w c D a b ≤ 1188 := by
  have bd : ∀ (p : Nat → Prop), smO p w n ≤ 1188 := fun p => by
    have h1 := smO_le (p := p) (f := w) (B := 99) (k := n) (fun x hx _ => F.2.1 x (by omega))
    have := F.le
    omega
  have h1 := bd (fun u => c u a ∧ D u a < D u b)
  have h2 := bd (fun u => c u a ∧ ¬ D u a < D u b)
  unfold Load LoadA LoadB
  omega
theorem BalAns.uq {v : Nat} {r r' : Int32} (h : BalAns n w E c D v r) (h2 : BalAns n w E c D v r') : r = r' := by
  rcases h with ⟨a1, a2⟩ | ⟨k, a1, a2⟩ <;> rcases h2 with ⟨b1, b2⟩ | ⟨k', b1, b2⟩
  · rw [a2, b2]
  · exact absurd b2.2.1 (a1 _ b2.1)
  · exact absurd a2.2.1 (b1 _ a2.1)
  · rw [a1, b1, a2.uq b2]
/-- the state of the search below the code K -/
def BSt (n : Nat) (w : Nat → Nat) (E : Nat → Nat → Nat) (c : Nat → Nat → Prop) (D : Nat → Nat → Nat) (v K : Nat) (a b : Int32) : Prop := ((∀ x, x < K → ¬ BP E c v x) ∧ a = -9 ∧ b = 1000000000) ∨ ∃ k, a = nI k ∧ b = nI (BL n w c D k) ∧ AMin (BP E c v) (BL n w c D) K k
theorem BSt.skip {v K K' : Nat} {a b : Int32} (h : BSt n w E c D v K a b) (hk : K ≤ K') (q : ∀ x, K ≤ x → x < K' → ¬ BP E c v x) : BSt n w E c D v K' a b := by
  rcases h with ⟨a1, a2⟩ | ⟨k, a1, a2, a3⟩
  · refine Or.inl ⟨fun x hx => ?_, a2⟩
    by_cases e : x < K
    · exact a1 x e
    · exact q x (by omega) hx
  · exact Or.inr ⟨k, a1, a2, a3.skip hk q⟩
theorem c_evenestEdge (hs : Sv G s) (hv : SvAt mem s n c D) (hf : FoAt mem (s - 15) n w E) (F : Fst n w E c D H) {v : Nat} (hv2 : v < n) : CtI l M_X5_evenestEdge G [.ref (gA G s), .int (nI v)] mem (fun r m => m = mem ∧ BalAns n w E c D v r) := by
  have hn := F.le
  refine CtI_of (by decide) (Nat.le_of_ble_eq_true rfl) rfl (t_X5_evenestEdge_0 hs _ mem ?_)
  refine up_loop (P := fun x => ∀ a b : Int32, BSt n w E c D v (100 * x) a b → XI l M_X5_evenestEdge G _ mem 9 [(0, .ref (gA G s)), (1, .int (nI v)), (2, .int a), (3, .int b), (4, .int (nI x))] []) (n := n) (Nat.zero_le _) ?_ ?_ _ _ (Or.inl ⟨fun x hx => absurd hx (Nat.not_lt_zero _), rfl, rfl⟩)
  · intro a b h
    refine t_X5_evenestEdge_9 hs _ _ _ _ mem ?_
    rw [hv.1]
    refine ⟨fun _ => ⟨rfl, ?_⟩, fun z => absurd ((i_nle (by omega) (by omega)).mpr (Nat.le_refl _)) z⟩
    rcases h.skip (K' := 1200) (by omega) (fun x h1 h2 p => by have := F.tD.v1 p.2.2; omega) with ⟨h1, h2⟩ | ⟨k, h1, h2, h3⟩
    · exact Or.inl ⟨h1, h2.1⟩
    · exact Or.inr ⟨k, h1, h3⟩
  · intro x _ hx ih a b h
    refine t_X5_evenestEdge_9 hs _ _ _ _ mem ?_
    rw [hv.1]
    refine ⟨fun z => absurd ((i_nle (by omega) (by omega)).mp z) (by omega), fun _ => ?_⟩
    rw [nI_1]
    refine up_loop (P := fun y => ∀ a b : Int32, BSt n w E c D v (100 * x + y) a b → XI l M_X5_evenestEdge G _ mem 24 [(0, .ref (gA G s)), (1, .int (nI v)), (2, .int a), (3, .int b), (4, .int (nI x)), (5, .int (nI y))] []) (n := n) (by omega) ?_ ?_ _ _ (h.skip (by omega) (fun z h1 h2 p => by have := p.1; omega))
    · intro a b h
      refine t_X5_evenestEdge_24 hs _ _ _ _ _ mem ?_
      rw [hv.1]
      refine ⟨fun _ => ?_, fun z => absurd ((i_nle (by omega) (by omega)).mpr (Nat.le_refl _)) z⟩
      rw [nI_1]
      exact ih _ _ (h.skip (by omega) (fun z h1 h2 p => by
        have e1 : z / 100 = x := by omega
        have := F.tD.v2 (F.tD.ed p.2.1)
        omega))
    · intro y hy1 hy ih2 a b h
      refine t_X5_evenestEdge_24 hs _ _ _ _ _ mem ?_
      rw [hv.1]
      have e1 : (100 * x + y) / 100 = x := by omega
      have e2 : (100 * x + y) % 100 = y := by omega
      have bp : BP E c v (100 * x + y) ↔ 0 < E x y ∧ c x v := by unfold BP; rw [e1, e2]; exact ⟨fun z => z.2, fun z => ⟨by omega, z⟩⟩
      have bl : BL n w c D (100 * x + y) = Load n w c D x y := by unfold BL; rw [e1, e2]
      have no : ¬ (0 < E x y ∧ c x v) → ∀ a b : Int32, BSt n w E c D v (100 * x + y) a b → XI l M_X5_evenestEdge G _ mem 24 [(0, .ref (gA G s)), (1, .int (nI v)), (2, .int a), (3, .int b), (4, .int (nI x)), (5, .int (nI (y + 1)))] [] := fun q a b h => ih2 _ _ (h.skip (by omega) (fun z h1 h2 p => by
        have : z = 100 * x + y := by omega
        subst this
        exact q (bp.mp p)))
      rw [nI_1 y]
      refine ⟨fun z => absurd ((i_nle (by omega) (by omega)).mp z) (by omega), fun _ => ⟨_, c_hasEdge (Sv_Fo hs) hf hn hx hy (by have := F.2.2.1 x y; omega), ?_⟩⟩
      rintro r m ⟨rfl, rfl⟩
      by_cases g : 0 < E x y
      · rw [if_pos g]
        refine ⟨fun z => absurd z (by decide), fun _ => ⟨_, c_joined hs hv F (by omega) (by omega), ?_⟩⟩
        rintro r m ⟨rfl, rfl⟩
        refine jn (fun q => no (fun z => q z.2) _ _ h) (fun q => ⟨_, c_heavierPart hs hv hf F g, ?_⟩)
        rintro r m ⟨rfl, rfl⟩
        have b1 := Load_le F x y
        have pk := bp.mpr ⟨g, q⟩
        have go : ∀ a b : Int32, BSt n w E c D v (100 * x + y + 1) a b → XI l M_X5_evenestEdge G _ m 24 [(0, .ref (gA G s)), (1, .int (nI v)), (2, .int a), (3, .int b), (4, .int (nI x)), (5, .int (nI (y + 1)))] [] := fun a b h => ih2 _ _ h
        rcases h with ⟨h1, rfl, rfl⟩ | ⟨k, rfl, rfl, h3⟩
        · refine ⟨fun z => by rw [i_le, i_nI (by omega), i_1000000000] at z; omega, fun _ => ⟨_, c_heavierPart hs hv hf F g, ?_⟩⟩
          rintro r m ⟨rfl, rfl⟩
          rw [show (100 : Int32) = nI 100 from rfl, pk_mul, nI_add]
          exact go _ _ (Or.inr ⟨_, rfl, by rw [bl], AMin.first h1 pk⟩)
        · have b2 : BL n w c D k ≤ 1188 := Load_le F _ _
          rw [i_nle (by omega) (by omega)]
          refine ⟨fun z => go _ _ (Or.inr ⟨k, rfl, rfl, h3.keep (fun _ => by rw [bl]; exact z)⟩), fun z => ⟨_, c_heavierPart hs hv hf F g, ?_⟩⟩
          rintro r m ⟨rfl, rfl⟩
          rw [show (100 : Int32) = nI 100 from rfl, pk_mul, nI_add]
          exact go _ _ (Or.inr ⟨_, rfl, by rw [bl], h3.new pk (by rw [bl]; omega)⟩)
      · rw [if_neg g]
        exact ⟨fun _ => no (fun z => g z.1) _ _ h, fun z => absurd rfl z⟩
theorem chn_le {t h : Nat} (ht : t ≤ 10) (hh : h ≤ 11) : chn t h ≤ 100000000000 := by
  unfold chn
  have h1 : t ^ h ≤ 10 ^ h := Nat.pow_le_pow_left ht h
  calc 10 ^ (11 - h) * t ^ h ≤ 10 ^ (11 - h) * 10 ^ h := Nat.mul_le_mul_left _ h1
    _ = 10 ^ (11 - h + h) := (Nat.pow_add 10 _ _).symm
    _ = 10 ^ 11 := by rw [Nat.sub_add_cancel hh]
    _ = 100000000000 := rfl
theorem chn_step {t k : Nat} (hk : k < 11) : chn t k / 10 * t = chn t (k + 1) := by
  unfold chn
  have e : 11 - k = (11 - (k + 1)) + 1 := by omega
  rw [e, Nat.pow_succ, Nat.mul_right_comm, Nat.mul_div_cancel _ (by decide), Nat.pow_succ, Nat.mul_assoc]
theorem c_chanceOfPath (hs : Sv G s) (hv : SvAt mem s n c D) (hf : FoAt mem (s - 15) n w E) (F : Fst n w E c D H) {u v t : Nat} (q : c u v) (ht : t ≤ 10) : CtL l M_X5_chanceOfPath G [.ref (gA G s), .int (nI u), .int (nI v), .int (nI t)] mem (fun r m => m = mem ∧ r = lN (chn t (H u v))) := by
  have hn := F.le
  have hh := F.hle q
  have hu := F.tD.v1 q
  have hv2 := F.tD.v2 q
  refine CtL_of (by decide) (Nat.le_of_ble_eq_true rfl) rfl (t_X5_chanceOfPath_0 hs _ _ _ mem ?_)
  refine up_loop (P := fun k => ∀ x, PA E D u v k x → XL l M_X5_chanceOfPath G _ mem 11 [(0, .ref (gA G s)), (2, .int (nI v)), (3, .int (nI t)), (4, .long (lN (chn t k))), (6, .int (nI x)), (7, .int (nI k))] []) (n := H u v) (Nat.zero_le _) ?_ ?_ u rfl
  · intro x hx
    obtain ⟨g1, g2⟩ := PA.on F q hx
    have e : x = v := F.tH.d00 g1 (by omega)
    subst e
    exact t_X5_chanceOfPath_11 hs _ _ _ _ _ mem ⟨fun z => absurd ((i_nle (a := 12) (by decide) (by omega)).mp z) (by omega), fun _ => ⟨fun _ => ⟨rfl, rfl⟩, fun z => absurd rfl z⟩⟩
  · intro k _ hk ih x hx
    obtain ⟨g1, g2⟩ := PA.on F q hx
    have hx2 := F.tD.v1 g1
    have e : x ≠ v := fun e => by
      subst e
      have := F.tH.d0 hx2
      omega
    refine t_X5_chanceOfPath_11 hs _ _ _ _ _ mem ⟨fun z => absurd ((i_nle (a := 12) (by decide) (by omega)).mp z) (by omega), fun _ => ⟨fun z => absurd ((i_neq (by omega) (by omega)).mp z) e, fun _ => ⟨_, c_stepToward hs hv hf F g1 e, ?_⟩⟩⟩
    rintro r m ⟨rfl, y, rfl, hy⟩
    have b := chn_le ht (h := k) (by omega)
    rw [nI_1, nI_l (by omega), show (10 : Int64) = lN 10 from rfl, pk_lDiv (by omega) (by decide) (by decide), lN_mul, chn_step (by omega)]
    exact ih y ⟨x, hx, e, hy⟩
theorem c_reachOf (hs : Sv G s) (hv : SvAt mem s n c D) (hf : FoAt mem (s - 15) n w E) (F : Fst n w E c D H) {v t : Nat} (hv2 : v < n) (ht : t ≤ 10) : CtL l M_X5_reachOf G [.ref (gA G s), .int (nI v), .int (nI t)] mem (fun r m => m = mem ∧ r = lN (Rea n w c H t v)) := by
  have hn := F.le
  refine CtL_of (by decide) (Nat.le_of_ble_eq_true rfl) rfl (t_X5_reachOf_0 hs _ _ mem ?_)
  refine up_loop (P := fun k => XL l M_X5_reachOf G _ mem 5 [(0, .ref (gA G s)), (1, .int (nI v)), (2, .int (nI t)), (3, .long (lN (smO (fun u => c u v) (fun u => w u * chn t (H u v)) k))), (5, .int (nI k))] []) (n := n) (Nat.zero_le _) ?_ ?_
  · refine t_X5_reachOf_5 hs _ _ _ _ mem ?_
    rw [hv.1]
    exact ⟨fun _ => ⟨rfl, rfl⟩, fun z => absurd ((i_nle (by omega) (by omega)).mpr (Nat.le_refl _)) z⟩
  · intro k _ hk ih
    refine t_X5_reachOf_5 hs _ _ _ _ mem ?_
    rw [hv.1]
    refine ⟨fun z => absurd ((i_nle (by omega) (by omega)).mp z) (by omega), fun _ => ⟨_, c_joined hs hv F (by omega) (by omega), ?_⟩⟩
    rintro r m ⟨rfl, rfl⟩
    rw [nI_1]
    unfold smO at ih
    refine jn (fun q => ?_) (fun q => ⟨_, c_weightOf (Sv_Fo hs) hf hn hk, ?_⟩)
    · rw [ifc_f q] at ih; exact ih
    · rintro r m ⟨rfl, rfl⟩
      refine ⟨_, c_chanceOfPath hs hv hf F q ht, ?_⟩
      rintro r m ⟨rfl, rfl⟩
      have := F.2.1 k hk
      rw [nI_l (by omega), lN_mul, lN_add]
      rw [ifc_t q] at ih
      exact ih
end CS
