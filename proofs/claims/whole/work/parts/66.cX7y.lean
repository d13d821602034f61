/-! the model: scripts -/
/-- the group of the command i of k -/
def grp (k s i : Nat) : Nat := s / 100000 ^ (k - 1 - i) % 100000
def scrE (E : Nat → Nat → Nat) (k s : Nat) : Nat → Nat → Nat → Nat
  | 0 => E
  | i + 1 => cmdE (scrE E k s i) (grp k s i / 10000) (grp k s i / 100 % 100) (grp k s i % 100)
def scrOk (n : Nat) (E : Nat → Nat → Nat) (k s i : Nat) : Prop := cmdOk n (scrE E k s i) (grp k s i / 10000) (grp k s i / 100 % 100) (grp k s i % 100)
/-- what runScript answers -/
def ScrAns (n : Nat) (E : Nat → Nat → Nat) (k s : Nat) (r : Int32) : Prop := (∃ i, i < k ∧ r = nI i ∧ ¬ scrOk n E k s i ∧ ∀ j, j < i → scrOk n E k s j) ∨ ((∀ j, j < k → scrOk n E k s j) ∧ r = -9)
theorem ScrAns.uq {n : Nat} {E : Nat → Nat → Nat} {k s : Nat} {r r' : Int32} (h : ScrAns n E k s r) (g : ScrAns n E k s r') : r = r' := by
  rcases h with ⟨i, h1, h2, h3, h4⟩ | ⟨h1, h2⟩ <;> rcases g with ⟨i', g1, g2, g3, g4⟩ | ⟨g1, g2⟩
  · have e : i = i' := by
      rcases Nat.lt_trichotomy i i' with q | q | q
      · exact absurd (g4 i q) h3
      · exact q
      · exact absurd (h4 i' q) g3
    rw [h2, g2, e]
  · exact absurd (g1 i h1) h3
  · exact absurd (h1 i' g1) g3
  · rw [h2, g2]
/-- the script's number of commands and its number are right -/
def ScrIn (a : Int32) (b : Int64) (k s : Nat) : Prop := a = nI k ∧ 1 ≤ k ∧ k ≤ 3 ∧ b = lN s ∧ s < 100000 ^ k
def ScrBad (a : Int32) (b : Int64) : Prop := ¬ (1 ≤ a.toInt ∧ a.toInt ≤ 3) ∨ ∃ k, a = nI k ∧ 1 ≤ k ∧ k ≤ 3 ∧ ¬ (0 ≤ b.toInt ∧ b.toInt < ((100000 ^ k : Nat) : Int))
theorem h_pow {k : Nat} (h : k ≤ 3) : 1 ≤ 100000 ^ k ∧ 100000 ^ k ≤ 1000000000000000 := by
  rcases (by omega : k = 0 ∨ k = 1 ∨ k = 2 ∨ k = 3) with rfl | rfl | rfl | rfl <;> decide
theorem lN_int {s : Nat} (h : s < 2 ^ 63) : (lN s).toInt = (s : Int) := by
  exact lg_ofNat_toInt h
theorem lN_of {b : Int64} (h : 0 ≤ b.toInt) : ∃ s : Nat, b = lN s ∧ (s : Int) = b.toInt := by
  have h2 := Int64.toInt_lt b
  refine ⟨b.toInt.toNat, ?_, by omega⟩
  have e : (lN b.toInt.toNat).toInt = b.toInt := by rw [lN_int (by omega)]; omega
  exact Int64.toInt_inj.mp e.symm
theorem ScrBad.no {a : Int32} {b : Int64} {k s : Nat} (h : ScrBad a b) (g : ScrIn a b k s) : False := by
  obtain ⟨g1, g2, g3, g4, g5⟩ := g
  have hp := h_pow g3
  rcases h with h | ⟨k', h1, h2, h3, h4⟩
  · rw [g1, i_nI (by omega)] at h; omega
  · have e := (i_neq (by omega) (by omega)).mp (g1.symm.trans h1)
    subst e
    rw [g4, lN_int (by omega)] at h4
    omega
section KM
variable {l : Launch} {G : Gx} {mem : Mem} {n : Nat} {w : Nat → Nat} {E : Nat → Nat → Nat}
theorem c_hund {k : Nat} (hk : k ≤ 3) : CtL l M_X7_hundredThousands G [.int (nI k)] mem (fun r m => m = mem ∧ r = lN (100000 ^ k)) := by
  refine CtL_of (by decide) (Nat.le_of_ble_eq_true rfl) rfl (t_X7_hundredThousands_0 _ mem ?_)
  refine up_loop (P := fun j => XL l M_X7_hundredThousands G _ mem 4 [(0, .int (nI k)), (1, .long (lN (100000 ^ j))), (3, .int (nI j))] []) (n := k) (Nat.zero_le _) ?_ ?_
  · exact t_X7_hundredThousands_4 _ _ _ mem ⟨fun _ => ⟨rfl, rfl⟩, fun z => absurd ((i_nle (by omega) (by omega)).mpr (Nat.le_refl _)) z⟩
  · intro j _ hj ih
    refine t_X7_hundredThousands_4 _ _ _ mem ?_
    rw [show (100000 : Int64) = lN 100000 from rfl, lN_mul, nI_1]
    exact ⟨fun z => absurd ((i_nle (by omega) (by omega)).mp z) (by omega), fun _ => ih⟩
/-- a group out of the script -/
theorem l_grp {k s i : Nat} (hk : k ≤ 3) (hs : s < 100000 ^ k) : (lN s / lN (100000 ^ (k - 1 - i)) - lN s / lN (100000 ^ (k - 1 - i)) / 100000 * 100000).toInt32 = nI (grp k s i) := by
  have h1 := h_pow hk
  have h2 := h_pow (k := k - 1 - i) (by omega)
  unfold grp
  generalize 100000 ^ (k - 1 - i) = q at h2
  have h3 : s / q ≤ s := Nat.div_le_self _ _
  rw [pk_lDiv (by omega) (by omega) (by omega), show (100000 : Int64) = lN 100000 from rfl, pk_lDiv (by omega) (by decide) (by decide), lN_mul, lN_sub (by omega), lN_i]
  congr 1
  omega
theorem g_how {g : Nat} (h : g < 100000) : nI g / 10000 = nI (g / 10000) := pk_div (d := 10000) (by omega) (by decide) (by decide)
theorem g_u {g : Nat} (h : g < 100000) : (nI g / 100) - (nI g / 100) / 100 * 100 = nI (g / 100 % 100) := by
  rw [show nI g / 100 = nI (g / 100) from pk_div (d := 100) (by omega) (by decide) (by decide)]
  exact rem_nI (d := 100) (by omega) (by decide) (by decide)
theorem g_v {g : Nat} (h : g < 100000) : nI g - nI g / 100 * 100 = nI (g % 100) := rem_nI (d := 100) (by omega) (by decide) (by decide)
theorem grp_lt (k s i : Nat) : grp k s i < 100000 := Nat.mod_lt _ (by decide)
theorem c_mScript (hG : Mn G) (hr : Ra G 329) (ht : Ra G 330) (h : RoAt mem 329 w E) (g : Gd n E) (hw : ∀ v, v < n → w v ≤ 99) (h3 : mem 327 3 = nI n) (a : Int32) (b : Int64) : CtI l M_X7_runScript G [.ref (gA G 327), .int a, .long b] mem (fun r m => COut mem m ∧ ((ScrBad a b ∧ r = -2) ∨ ∃ k s, ScrIn a b k s ∧ ScrAns n E k s r)) := by
  refine CtI_of (by decide) (Nat.le_of_ble_eq_true rfl) rfl (t_X7_runScript_0 hG _ _ mem ?_)
  refine ⟨_, c_in' a 1 3 i_64_1 (d' := 3) rfl, ?_⟩
  rintro r m ⟨rfl, rfl⟩
  by_cases qa : 1 ≤ a.toInt ∧ a.toInt ≤ 3
  · rw [if_pos qa]
    refine ⟨fun z => absurd z (by decide), fun _ => ?_⟩
    obtain ⟨k, hk, rfl⟩ : ∃ k : Nat, k < 4 ∧ a = nI k := i_arg (by omega) (by omega)
    have hk1 : 1 ≤ k := by have := qa.1; rw [i_nI (by omega)] at this; omega
    have hp := h_pow (k := k) (by omega)
    refine ⟨_, c_hund (by omega), ?_⟩
    rintro r m ⟨rfl, rfl⟩
    refine ⟨_, c_in b 0 _, ?_⟩
    rintro r m0 ⟨rfl, rfl⟩
    have e1 : (lN (100000 ^ k) - 1).toInt = ((100000 ^ k : Nat) : Int) - 1 := by
      rw [show (1 : Int64) = lN 1 from rfl, lN_sub (by omega), lN_int (by omega)]
      omega
    rw [e1, i_64_0]
    by_cases qb : 0 ≤ b.toInt ∧ b.toInt ≤ ((100000 ^ k : Nat) : Int) - 1
    · rw [if_pos qb]
      refine ⟨fun _ => ⟨_, c_copy hr ht (by decide), ?_⟩, fun z => absurd z (by decide)⟩
      rintro m1 ⟨k1, k2⟩
      obtain ⟨s, rfl, hs⟩ := lN_of qb.1
      have hs2 : s < 100000 ^ k := by omega
      have si : ScrIn (nI k) (lN s) k s := ⟨rfl, hk1, by omega, rfl, hs2⟩
      refine up_loop (P := fun i => ∀ m : Mem, COut m0 m → RoAt m 330 w (scrE E k s i) → Gd n (scrE E k s i) → (∀ j, j < i → scrOk n E k s j) → XI l M_X7_runScript G _ m 43 [(0, .ref (gA G 327)), (1, .int (nI k)), (2, .long (lN s)), (4, .int (nI i))] []) (n := k) (Nat.zero_le _) ?_ ?_ m1 (COut.t k1) (h.eq k2) g (fun j hj => absurd hj (Nat.not_lt_zero j))
      · intro m o hR hg hok
        exact t_X7_runScript_43 hG _ _ _ m ⟨fun _ => ⟨o, Or.inr ⟨k, s, si, Or.inr ⟨hok, rfl⟩⟩⟩, fun z => absurd ((i_nle (by omega) (by omega)).mpr (Nat.le_refl _)) z⟩
      · intro i _ hi ih m o hR hg hok
        refine t_X7_runScript_43 hG _ _ _ m ⟨fun z => absurd ((i_nle (by omega) (by omega)).mp z) (by omega), fun _ => ?_⟩
        have ek : nI k - 1 - nI i = nI (k - 1 - i) := by rw [show (1 : Int32) = nI 1 from rfl, pk_sub (by omega), pk_sub (by omega)]
        rw [ek, nI_1]
        refine ⟨_, c_hund (by omega), ?_⟩
        rintro r m ⟨rfl, rfl⟩
        have gl := grp_lt k s i
        have p2 := h_pow (k := k - 1 - i) (by omega)
        rw [l_grp (by omega) hs2, g_how gl, g_u gl, g_v gl]
        refine ⟨fun z => ?_, ?_⟩
        · have z2 := congrArg Int64.toInt z
          rw [lN_int (by omega), i_64_0] at z2
          omega
        · have n3 : m 327 3 = nI n := by rw [o.2 3 (by decide) (by decide)]; exact h3
          refine ⟨_, c_command hG ht hR hg hw n3 (by omega) (by omega) (by omega), ?_⟩
          rintro r m2 ⟨j1, j2⟩
          have o2 := o.tr j1
          rcases j2 with ⟨j2, rfl, j3⟩ | ⟨j2, rfl⟩
          · refine ⟨fun _ => ih m2 o2 j3 (hg.cmd j2) (fun j hj => ?_), fun z => absurd z (by decide)⟩
            by_cases e : j = i
            · rw [e]; exact j2
            · exact hok j (by omega)
          · exact ⟨fun z => absurd rfl z, fun _ => ⟨o2, Or.inr ⟨k, s, si, Or.inl ⟨i, hi, rfl, j2, hok⟩⟩⟩⟩
    · rw [if_neg qb]
      exact ⟨fun z => absurd rfl z, fun _ => ⟨COut.rf, Or.inl ⟨Or.inr ⟨k, rfl, hk1, by omega, by omega⟩, rfl⟩⟩⟩
  · rw [if_neg qa]
    exact ⟨fun _ => ⟨COut.rf, Or.inl ⟨Or.inl qa, rfl⟩⟩, fun z => absurd rfl z⟩
end KM
