/-! the model: scripts -/
/-- the group of the command i of k -/
def grp (k s i : Nat) : Nat := s / 100000 ^ (k - 1 - i) % 100000
def scrE (E : Nat → Nat → Nat) (k s : Nat) : Nat → Nat → Nat → Nat
  | 0 => E
  | i + 1 => cmdE (scrE E k s i) (grp k s i / 10000) (grp k s i / 100 % 100) (grp k s i % 100)
def scrOk (n : Nat) (E : Nat → Nat → Nat) (k s i : Nat) : Prop := cmdOk n (scrE E k s i) (grp k s i / 10000) (grp k s i / 100 % 100) (grp k s i % 100)
/-- what runScript answers -/
def ScrAns (n : Nat) (E : Nat → Nat → Nat) (k s : Nat) (r : Int32) : Prop := (∃ i, i < k ∧ r = nI i ∧ ¬ scrOk n E k s i ∧ ∀ j, j < i → scrOk n E k s j) ∨ ((∀ j, j < k → scrOk n E k s j) ∧ r = -9)
theorem ScrAns.uq {n : Nat} {E : Nat → Nat → Nat} {k s : Nat} {r r' : Int32} (h : ScrAns n E k s r) (g : ScrAns n E k s r') : r = r' := by
  rcases h with ⟨i, h1, h2, h3, h4⟩ | ⟨h1, h2⟩ <;> rcases g with ⟨i', g1, g2, g3, g4⟩ | ⟨g1, g2⟩
  · have e : i = i' := by
      rcases Nat.lt_trichotomy i i' with q | q | q
      · exact absurd (g4 i q) h3
      · exact q
      · exact absurd (h4 i' q) g3
    rw [h2, g2, e]
  · exact absurd (g1 i h1) h3
  · exact absurd (h1 i' g1) g3
  · rw [h2, g2]
/-- the script's number of commands and its number are right -/
def ScrIn (a : Int32) (b : Int64) (k s : Nat) : Prop := a = nI k ∧ 1 ≤ k ∧ k ≤ 3 ∧ b = lN s ∧ s < 100000 ^ k
def ScrBad (a : Int32) (b : Int64) : Prop := ¬ (1 ≤ a.toInt ∧ a.toInt ≤ 3) ∨ ∃ k, a = nI k ∧ 1 ≤ k ∧ k ≤ 3 ∧ ¬ (0 ≤ b.toInt ∧ b.toInt < ((100000 ^ k : Nat) : Int))
theorem h_pow {k : Nat} (h : k ≤ 3) : 1 ≤ 100000 ^ k ∧ 100000 ^ k ≤ 1000000000000000 := by
  rcases (by omega : k = 0 ∨ k = 1 ∨ k = 2 ∨ k = 3) with rfl | rfl | rfl | rfl <;> decide
theorem lN_int {s : Nat} (h : s < 2 ^ 63) : (lN s).toInt = (s : Int) := by
  exact lg_ofNat_toInt h
theorem lN_of {b : Int64} (h : 0 ≤ b.toInt) : ∃ s : Nat, b = lN s ∧ (s : Int) = b.toInt := by
  have h2 := Int64.toInt_lt b
  refine ⟨b.toInt.toNat, ?_, by omega⟩
  have e : (lN b.toInt.toNat).toInt = b.toInt := by rw [lN_int (by omega)]; omega
  exact Int64.toInt_inj.mp e.symm
theorem ScrBad.no {a : Int32} {b : Int64} {k s : Nat} (h : ScrBad a b) (g : ScrIn a b k s) : False := by
  obtain ⟨g1, g2, g3, g4, g5⟩ := g
  have hp := h_pow g3
  rcases h with h | ⟨k', h1, h2, h3, h4⟩
  · rw [g1, i_nI (by omega)] at h; omega
  · have e := (i_neq (by omega) (by omega)).mp (g1.symm.trans h1)
    subst e
    rw [g4, lN_int (by omega)] at h4
    omega
section KM
variable {l : Launch} {G : Gx} {mem : Mem} {n : Nat} {w : Nat → Nat} {E : Nat → Nat → Nat}
/-- a group out of the script -/
theorem l_grp {k s i : Nat} (hk : k ≤ 3) (hs : s < 100000 ^ k) : (lN s / lN (100000 ^ (k - 1 - i)) - lN s / lN (100000 ^ (k - 1 - i)) / 100000 * 100000).toInt32 = nI (grp k s i) := by
  have h1 := h_pow hk
  have h2 := h_pow (k := k - 1 - i) (by omega)
  unfold grp
  generalize 100000 ^ (k - 1 - i) = q at h2
  have h3 : s / q ≤ s := Nat.div_le_self _ _
  rw [pk_lDiv (by omega) (by omega) (by omega), show (100000 : Int64) = lN 100000 from rfl, pk_lDiv (by omega) (by decide) (by decide), lN_mul, lN_sub (by omega), lN_i]
  congr 1
  omega
theorem g_how {g : Nat} (h : g < 100000) : nI g / 10000 = nI (g / 10000) := pk_div (d := 10000) (by omega) (by decide) (by decide)
theorem g_u {g : Nat} (h : g < 100000) : (nI g / 100) - (nI g / 100) / 100 * 100 = nI (g / 100 % 100) := by
  rw [show nI g / 100 = nI (g / 100) from pk_div (d := 100) (by omega) (by decide) (by decide)]
  exact rem_nI (d := 100) (by omega) (by decide) (by decide)
theorem g_v {g : Nat} (h : g < 100000) : nI g - nI g / 100 * 100 = nI (g % 100) := rem_nI (d := 100) (by omega) (by decide) (by decide)
theorem grp_lt (k s i : Nat) : grp k s i < 100000 := Nat.mod_lt _ (by decide)
end KM
