/-! the model: random changes -/
def rnR (x : Int64) : Int32 := (((x.toUInt64 >>> ((33 : Int32).toInt64.toUInt64 &&& Int64.toUInt64 63)).toInt64) : Int64).toInt32
def rq (x : Int64) : Nat := x.toUInt64.toNat / 2 ^ 33
theorem rq_lt (x : Int64) : rq x < 2147483648 := by
  have := x.toUInt64.toNat_lt
  unfold rq
  omega
theorem rnR_eq (x : Int64) : rnR x = nI (rq x) := by
  have e : ((33 : Int32).toInt64.toUInt64 &&& Int64.toUInt64 63) = 33 := by decide
  have h1 : (x.toUInt64 >>> (33 : UInt64)).toNat = rq x := by
    rw [UInt64.toNat_shiftRight, Nat.shiftRight_eq_div_pow]; rfl
  have h2 : (x.toUInt64 >>> (33 : UInt64)).toInt64 = lN (rq x) := by
    apply Int64.toBitVec_inj.mp
    apply BitVec.eq_of_toNat_eq
    rw [show (lN (rq x)).toBitVec = BitVec.ofNat 64 (rq x) from rfl, BitVec.toNat_ofNat, Nat.mod_eq_of_lt (by have := rq_lt x; omega)]
    exact h1
  unfold rnR
  rw [e, h2, lN_i]
def rx (s : Int64) : Nat → Int64
  | 0 => s
  | k + 1 => rx s k * 6364136223846793005 + 1442695040888963407
noncomputable def rcE (n : Nat) (E : Nat → Nat → Nat) (r : Nat) : Nat → Nat → Nat := if 0 < E (r % n) (r / 16 % n) then (if (r / 256 % 99 + 1) % 2 = 0 then updE E (r % n) (r / 16 % n) 0 else updE E (r % n) (r / 16 % n) (r / 256 % 99 + 1)) else ifc (gc n E (r % n) (r / 16 % n)) E (updE E (r % n) (r / 16 % n) (r / 256 % 99 + 1))
theorem Gd.rc {n : Nat} {E : Nat → Nat → Nat} (h : Gd n E) (r : Nat) : Gd n (rcE n E r) := by
  have n1 : 1 ≤ n := h.1.1
  have hu : r % n < n := Nat.mod_lt _ n1
  have hv : r / 16 % n < n := Nat.mod_lt _ n1
  have hw : r / 256 % 99 < 99 := Nat.mod_lt _ (by decide)
  unfold rcE
  split
  · next e =>
    split
    · exact h.cut e
    · exact h.rew e (by omega) (by omega)
  · by_cases q : gc n E (r % n) (r / 16 % n)
    · rw [ifc_t q]; exact h
    · rw [ifc_f q]; exact h.link hu hv q (by omega) (by omega)
noncomputable def rEk (n : Nat) (E : Nat → Nat → Nat) (s : Int64) : Nat → Nat → Nat → Nat
  | 0 => E
  | k + 1 => rcE n (rEk n E s k) (rq (rx s (k + 1)))
noncomputable def dia0 (n : Nat) (E : Nat → Nat → Nat) : Nat := mxO (gc n E 0) (Ecc n (gc n E) (gd n E)) n
noncomputable def rSum (n : Nat) (E : Nat → Nat → Nat) (s : Int64) : Nat → Nat
  | 0 => 0
  | k + 1 => rSum n E s k + dia0 n (rEk n E s (k + 1))
theorem Gd.rk {n : Nat} {E : Nat → Nat → Nat} (h : Gd n E) (s : Int64) : ∀ k, Gd n (rEk n E s k)
  | 0 => h
  | k + 1 => Gd.rc (h.rk s k) _
/-- what randomChanges answers -/
def RndAns (n : Nat) (E : Nat → Nat → Nat) (s : Int64) (a : Int32) (r : Int32) : Prop := (¬ (1 ≤ a.toInt ∧ a.toInt ≤ 60) ∧ r = -2) ∨ ∃ k, a = nI k ∧ 1 ≤ k ∧ k ≤ 60 ∧ r = nI (rSum n E s k)
theorem RndAns.uq {n : Nat} {E : Nat → Nat → Nat} {s : Int64} {a r r' : Int32} (h : RndAns n E s a r) (g : RndAns n E s a r') : r = r' := by
  rcases h with ⟨h1, h2⟩ | ⟨k, h1, h2, h3, h4⟩ <;> rcases g with ⟨g1, g2⟩ | ⟨k', g1, g2, g3, g4⟩
  · rw [h2, g2]
  · exact absurd (by rw [g1, i_nI (by omega)]; omega) h1
  · exact absurd (by rw [h1, i_nI (by omega)]; omega) g1
  · have e := (i_neq (by omega) (by omega)).mp (h1.symm.trans g1)
    subst e
    rw [h4, g4]
section KM
variable {l : Launch} {G : Gx} {mem : Mem} {n : Nat} {w : Nat → Nat} {E : Nat → Nat → Nat}
/-- the numbers out of r -/
theorem r_u {q n : Nat} (hq : q < 2147483648) (h1 : 1 ≤ n) (hn : n ≤ 12) : nI q - nI q / nI n * nI n = nI (q % n) := rem_nI hq (by omega) (by omega)
theorem r_v {q n : Nat} (hq : q < 2147483648) (h1 : 1 ≤ n) (hn : n ≤ 12) : (nI q / 16) - (nI q / 16) / nI n * nI n = nI (q / 16 % n) := by
  rw [show nI q / 16 = nI (q / 16) from pk_div (d := 16) (by omega) (by decide) (by decide)]
  exact rem_nI (by omega) (by omega) (by omega)
theorem r_w {q : Nat} (hq : q < 2147483648) : ((nI q / 256) - (nI q / 256) / 99 * 99) + 1 = nI (q / 256 % 99 + 1) := by
  rw [show nI q / 256 = nI (q / 256) from pk_div (d := 256) (by omega) (by decide) (by decide), show nI (q / 256) - nI (q / 256) / 99 * 99 = nI (q / 256 % 99) from rem_nI (d := 99) (by omega) (by decide) (by decide), nI_1]
theorem r_2 {q : Nat} (hq : q < 2147483648) : nI q - nI q / 2 * 2 = nI (q % 2) := rem_nI (d := 2) hq (by decide) (by decide)
theorem c_mRandom (hG : Mn G) (hr : Ra G 329) (ht : Ra G 330) (h : RoAt mem 329 w E) (g : Gd n E) (hw : ∀ v, v < n → w v ≤ 99) (h3 : mem 327 3 = nI n) (s : Int64) (a : Int32) : CtI l M_X7_randomChanges G [.ref (gA G 327), .long s, .int a] mem (fun r m => COut mem m ∧ RndAns n E s a r) := by
  have n1 : 1 ≤ n := g.1.1
  have hn : n ≤ 12 := g.1.2
  refine CtI_of (by decide) (Nat.le_of_ble_eq_true rfl) rfl (t_X7_randomChanges_0 hG _ _ mem ?_)
  refine ⟨_, c_in' a 1 60 i_64_1 (d' := 60) rfl, ?_⟩
  rintro r m0 ⟨rfl, rfl⟩
  by_cases qa : 1 ≤ a.toInt ∧ a.toInt ≤ 60
  · rw [if_pos qa]
    obtain ⟨k, hk, rfl⟩ : ∃ k : Nat, k < 61 ∧ a = nI k := i_arg (by omega) (by omega)
    have hk1 : 1 ≤ k := by have := qa.1; rw [i_nI (by omega)] at this; omega
    refine ⟨fun _ => ⟨_, c_copy hr ht (by decide), ?_⟩, fun z => absurd z (by decide)⟩
    rintro m1 ⟨k1, k2⟩
    refine up_loop (P := fun i => ∀ m : Mem, COut m0 m → RoAt m 330 w (rEk n E s i) → XI l M_X7_randomChanges G _ m 35 [(0, .ref (gA G 327)), (3, .int (nI k)), (4, .long (rx s i)), (6, .int (nI (rSum n E s i))), (7, .int (nI i))] []) (n := k) (Nat.zero_le _) ?_ ?_ m1 (COut.t k1) (h.eq k2)
    · intro m o _
      exact t_X7_randomChanges_35 hG _ _ _ _ m ⟨fun _ => ⟨o, Or.inr ⟨k, rfl, hk1, by omega, rfl⟩⟩, fun z => absurd ((i_nle (by omega) (by omega)).mpr (Nat.le_refl _)) z⟩
    · intro i _ hi ih m o hR
      have gi := g.rk s i
      have gi2 := g.rk s (i + 1)
      have Fi := gi.f hw
      refine t_X7_randomChanges_35 hG _ _ _ _ m ⟨fun z => absurd ((i_nle (by omega) (by omega)).mp z) (by omega), fun _ => ?_⟩
      have n3 : m 327 3 = nI n := by rw [o.2 3 (by decide) (by decide)]; exact h3
      have er : (((rx s i * 6364136223846793005 + 1442695040888963407).toUInt64 >>> ((33 : Int32).toInt64.toUInt64 &&& Int64.toUInt64 63)).toInt64).toInt32 = nI (rq (rx s (i + 1))) := rnR_eq (rx s (i + 1))
      rw [er]
      have hq := rq_lt (rx s (i + 1))
      have eE : rEk n E s (i + 1) = rcE n (rEk n E s i) (rq (rx s (i + 1))) := rfl
      have eS : rSum n E s (i + 1) = rSum n E s i + dia0 n (rEk n E s (i + 1)) := rfl
      have ex : rx s (i + 1) = rx s i * 6364136223846793005 + 1442695040888963407 := rfl
      rw [← ex]
      generalize rx s (i + 1) = x at ih hq eE
      generalize rq x = q at hq eE
      refine t_X7_randomChanges_61 hG _ _ _ _ _ m ?_
      rw [n3, r_u hq n1 hn, r_v hq n1 hn, r_w hq]
      have nz : ¬ nI n = 0 := fun z => by rw [i_eq, i_nI (by omega), i_0] at z; omega
      refine ⟨nz, nz, ?_⟩
      have hu : q % n < n := Nat.mod_lt _ n1
      have hv : q / 16 % n < n := Nat.mod_lt _ n1
      have hx : q / 256 % 99 < 99 := Nat.mod_lt _ (by decide)
      -- the end of a step
      have fin : ∀ m : Mem, COut m0 m → RoAt m 330 w (rEk n E s (i + 1)) → XI l M_X7_randomChanges G (fun r m => COut m0 m ∧ RndAns n E s (nI k) r) m 165 [(0, .ref (gA G 327)), (3, .int (nI k)), (4, .long x), (6, .int (nI (rSum n E s i))), (7, .int (nI i))] [] := by
        intro m o hR
        have n3 : m 327 3 = nI n := by rw [o.2 3 (by decide) (by decide)]; exact h3
        refine t_X7_randomChanges_165 hG _ _ _ _ m ⟨_, c_diamOf hG ht (by decide) hR (gi2.f hw) n3 (v := 0) (by omega), ?_⟩
        rintro y m2 ⟨f1, rfl⟩
        have := ih m2 (o.tr (COut.F f1)) (hR.eq' (f1 330 (by decide) (by decide) (by decide)))
        rw [eS] at this
        rw [nI_1, nI_add]
        exact this
      refine t_X7_randomChanges_95 hG _ _ _ _ _ _ _ m ⟨_, c_at, ?_⟩
      rintro y m ⟨rfl, rfl⟩
      have be := Fi.2.2.1 (q % n) (q / 16 % n)
      have aw : (q / 256 % 99 + 1) < 2147483648 := by omega
      rw [i_cl (k := 12 + 12 * (q % n) + q / 16 % n) (by omega), hR.2 _ _ (by omega) (by omega), r_2 aw]
      refine ⟨i_in (by omega) (by decide), fun z => ?_, fun z => ?_⟩
      · have e0 : ¬ 0 < rEk n E s i (q % n) (q / 16 % n) := by have := (i_nle (b := 0) (by omega) (by decide)).mp z; omega
        refine ⟨_, c_isOneTree hG ht hR Fi hu (by omega), ?_⟩
        rintro y m2 ⟨f1, rfl⟩
        have o2 := o.tr (COut.f f1)
        have hR2 : RoAt m2 330 w (rEk n E s i) := hR.eq' (f1 330 (by decide) (by decide))
        refine jn' (fun nq => ⟨_, c_join ht hR2 (by omega) (by omega), ?_⟩) (fun cq => fin m2 o2 ?_)
        · rintro m3 ⟨f2, f3⟩
          refine fin m3 (o2.tr (COut.t f2)) ?_
          rw [eE]
          unfold rcE
          rw [if_neg e0, ifc_f nq]
          exact f3
        · rw [eE]
          unfold rcE
          rw [if_neg e0, ifc_t cq]
          exact hR2
      · have e0 : 0 < rEk n E s i (q % n) (q / 16 % n) := by
          rcases Nat.eq_zero_or_pos (rEk n E s i (q % n) (q / 16 % n)) with e | e
          · exact absurd (by rw [e]; exact (i_nle (a := 0) (b := 0) (by decide) (by decide)).mpr (Nat.le_refl _)) z
          · exact e
        refine ⟨fun z2 => ⟨_, c_join ht hR (by omega) (by omega), ?_⟩, fun z2 => ⟨_, c_join ht hR (x := 0) (by omega) (by omega), ?_⟩⟩
        · rintro m3 ⟨f2, f3⟩
          refine fin m3 (o.tr (COut.t f2)) ?_
          have ne : ¬ (q / 256 % 99 + 1) % 2 = 0 := fun e => z2 (by rw [e]; rfl)
          rw [eE]
          unfold rcE
          rw [if_pos e0, if_neg ne]
          exact f3
        · rintro m3 ⟨f2, f3⟩
          refine fin m3 (o.tr (COut.t f2)) ?_
          have e : (q / 256 % 99 + 1) % 2 = 0 := by
            rw [i_eq, i_nI (by omega), i_0] at z2
            omega
          rw [eE]
          unfold rcE
          rw [if_pos e0, if_pos e]
          exact f3
  · rw [if_neg qa]
    exact ⟨fun z => absurd rfl z, fun _ => ⟨COut.rf, Or.inl ⟨qa, rfl⟩⟩⟩
end KM
