/-! the model: random changes -/
def rnR (x : Int64) : Int32 := (((x.toUInt64 >>> ((33 : Int32).toInt64.toUInt64 &&& Int64.toUInt64 63)).toInt64) : Int64).toInt32
def rq (x : Int64) : Nat := x.toUInt64.toNat / 2 ^ 33
theorem rq_lt (x : Int64) : rq x < 2147483648 := by
  have := x.toUInt64.toNat_lt
  unfold rq
  omega
theorem rnR_eq (x : Int64) : rnR x = nI (rq x) := by
  have e : ((33 : Int32).toInt64.toUInt64 &&& Int64.toUInt64 63) = 33 := by decide
  have h1 : (x.toUInt64 >>> (33 : UInt64)).toNat = rq x := by
    rw [UInt64.toNat_shiftRight, Nat.shiftRight_eq_div_pow]; rfl
  have h2 : (x.toUInt64 >>> (33 : UInt64)).toInt64 = lN (rq x) := by
    apply Int64.toBitVec_inj.mp
    apply BitVec.eq_of_toNat_eq
    rw [show (lN (rq x)).toBitVec = BitVec.ofNat 64 (rq x) from rfl, BitVec.toNat_ofNat, Nat.mod_eq_of_lt (by have := rq_lt x; omega)]
    exact h1
  unfold rnR
  rw [e, h2, lN_i]
def rx (s : Int64) : Nat → Int64
  | 0 => s
  | k + 1 => rx s k * 6364136223846793005 + 1442695040888963407
noncomputable def rcE (n : Nat) (E : Nat → Nat → Nat) (r : Nat) : Nat → Nat → Nat := if 0 < E (r % n) (r / 16 % n) then (if (r / 256 % 99 + 1) % 2 = 0 then updE E (r % n) (r / 16 % n) 0 else updE E (r % n) (r / 16 % n) (r / 256 % 99 + 1)) else ifc (gc n E (r % n) (r / 16 % n)) E (updE E (r % n) (r / 16 % n) (r / 256 % 99 + 1))
theorem Gd.rc {n : Nat} {E : Nat → Nat → Nat} (h : Gd n E) (r : Nat) : Gd n (rcE n E r) := by
  have n1 : 1 ≤ n := h.1.1
  have hu : r % n < n := Nat.mod_lt _ n1
  have hv : r / 16 % n < n := Nat.mod_lt _ n1
  have hw : r / 256 % 99 < 99 := Nat.mod_lt _ (by decide)
  unfold rcE
  split
  · next e =>
    split
    · exact h.cut e
    · exact h.rew e (by omega) (by omega)
  · by_cases q : gc n E (r % n) (r / 16 % n)
    · rw [ifc_t q]; exact h
    · rw [ifc_f q]; exact h.link hu hv q (by omega) (by omega)
noncomputable def rEk (n : Nat) (E : Nat → Nat → Nat) (s : Int64) : Nat → Nat → Nat → Nat
  | 0 => E
  | k + 1 => rcE n (rEk n E s k) (rq (rx s (k + 1)))
noncomputable def dia0 (n : Nat) (E : Nat → Nat → Nat) : Nat := mxO (gc n E 0) (Ecc n (gc n E) (gd n E)) n
noncomputable def rSum (n : Nat) (E : Nat → Nat → Nat) (s : Int64) : Nat → Nat
  | 0 => 0
  | k + 1 => rSum n E s k + dia0 n (rEk n E s (k + 1))
theorem Gd.rk {n : Nat} {E : Nat → Nat → Nat} (h : Gd n E) (s : Int64) : ∀ k, Gd n (rEk n E s k)
  | 0 => h
  | k + 1 => Gd.rc (h.rk s k) _
/-- what randomChanges answers -/
def RndAns (n : Nat) (E : Nat → Nat → Nat) (s : Int64) (a : Int32) (r : Int32) : Prop := (¬ (1 ≤ a.toInt ∧ a.toInt ≤ 60) ∧ r = -2) ∨ ∃ k, a = nI k ∧ 1 ≤ k ∧ k ≤ 60 ∧ r = nI (rSum n E s k)
theorem RndAns.uq {n : Nat} {E : Nat → Nat → Nat} {s : Int64} {a r r' : Int32} (h : RndAns n E s a r) (g : RndAns n E s a r') : r = r' := by
  rcases h with ⟨h1, h2⟩ | ⟨k, h1, h2, h3, h4⟩ <;> rcases g with ⟨g1, g2⟩ | ⟨k', g1, g2, g3, g4⟩
  · rw [h2, g2]
  · exact absurd (by rw [g1, i_nI (by omega)]; omega) h1
  · exact absurd (by rw [h1, i_nI (by omega)]; omega) g1
  · have e := (i_neq (by omega) (by omega)).mp (h1.symm.trans g1)
    subst e
    rw [h4, g4]
section KM
variable {l : Launch} {G : Gx} {mem : Mem} {n : Nat} {w : Nat → Nat} {E : Nat → Nat → Nat}
/-- the numbers out of r -/
theorem r_u {q n : Nat} (hq : q < 2147483648) (h1 : 1 ≤ n) (hn : n ≤ 12) : nI q - nI q / nI n * nI n = nI (q % n) := rem_nI hq (by omega) (by omega)
theorem r_v {q n : Nat} (hq : q < 2147483648) (h1 : 1 ≤ n) (hn : n ≤ 12) : (nI q / 16) - (nI q / 16) / nI n * nI n = nI (q / 16 % n) := by
  rw [show nI q / 16 = nI (q / 16) from pk_div (d := 16) (by omega) (by decide) (by decide)]
  exact rem_nI (by omega) (by omega) (by omega)
theorem r_w {q : Nat} (hq : q < 2147483648) : ((nI q / 256) - (nI q / 256) / 99 * 99) + 1 = nI (q / 256 % 99 + 1) := by
  rw [show nI q / 256 = nI (q / 256) from pk_div (d := 256) (by omega) (by decide) (by decide), show nI (q / 256) - nI (q / 256) / 99 * 99 = nI (q / 256 % 99) from rem_nI (d := 99) (by omega) (by decide) (by decide), nI_1]
theorem r_2 {q : Nat} (hq : q < 2147483648) : nI q - nI q / 2 * 2 = nI (q % 2) := rem_nI (d := 2) hq (by decide) (by decide)
end KM
