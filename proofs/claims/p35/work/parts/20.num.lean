/-! numbers: Int32 by toInt -/
theorem i_lt (a b : Int32) : a < b ↔ a.toInt < b.toInt := Int32.lt_iff_toInt_lt
theorem i_le (a b : Int32) : a ≤ b ↔ a.toInt ≤ b.toInt := Int32.le_iff_toInt_le
theorem i_eq (a b : Int32) : a = b ↔ a.toInt = b.toInt := Int32.toInt_inj.symm
theorem i_nI {n : Nat} (h : n < 2147483648) : (nI n).toInt = (n : Int) := nI_toInt h
theorem i_rng (x : Int32) : -2147483648 ≤ x.toInt ∧ x.toInt < 2147483648 := ⟨Int32.le_toInt x, Int32.toInt_lt x⟩
theorem i_bmod {z : Int} (h1 : -2147483648 ≤ z) (h2 : z < 2147483648) : z.bmod (2 ^ 32) = z := by
  apply Int.bmod_eq_of_le <;> omega
theorem i_add {x y : Int32} (h1 : -2147483648 ≤ x.toInt + y.toInt) (h2 : x.toInt + y.toInt < 2147483648) : (x + y).toInt = x.toInt + y.toInt := by
  rw [Int32.toInt_add]; exact i_bmod h1 h2
theorem i_sub {x y : Int32} (h1 : -2147483648 ≤ x.toInt - y.toInt) (h2 : x.toInt - y.toInt < 2147483648) : (x - y).toInt = x.toInt - y.toInt := by
  rw [Int32.toInt_sub]; exact i_bmod h1 h2
theorem i_mul {x y : Int32} (h1 : -2147483648 ≤ x.toInt * y.toInt) (h2 : x.toInt * y.toInt < 2147483648) : (x * y).toInt = x.toInt * y.toInt := by
  rw [Int32.toInt_mul]; exact i_bmod h1 h2
theorem i_m1 : (-1 : Int32).toInt = -1 := rfl
theorem i_m2 : (-2 : Int32).toInt = -2 := rfl
theorem i_m3 : (-3 : Int32).toInt = -3 := rfl
theorem i_m4 : (-4 : Int32).toInt = -4 := rfl
theorem i_m9 : (-9 : Int32).toInt = -9 := rfl
theorem i_0 : (0 : Int32).toInt = 0 := rfl
theorem i_1 : (1 : Int32).toInt = 1 := rfl
theorem i_2 : (2 : Int32).toInt = 2 := rfl
theorem i_3 : (3 : Int32).toInt = 3 := rfl
theorem i_5 : (5 : Int32).toInt = 5 := rfl
theorem i_6 : (6 : Int32).toInt = 6 := rfl
theorem i_9 : (9 : Int32).toInt = 9 := rfl
theorem i_10 : (10 : Int32).toInt = 10 := rfl
theorem i_11 : (11 : Int32).toInt = 11 := rfl
theorem i_12 : (12 : Int32).toInt = 12 := rfl
theorem i_13 : (13 : Int32).toInt = 13 := rfl
theorem i_14 : (14 : Int32).toInt = 14 := rfl
theorem i_15 : (15 : Int32).toInt = 15 := rfl
theorem i_16 : (16 : Int32).toInt = 16 := rfl
theorem i_18 : (18 : Int32).toInt = 18 := rfl
theorem i_24 : (24 : Int32).toInt = 24 := rfl
theorem i_48 : (48 : Int32).toInt = 48 := rfl
theorem i_60 : (60 : Int32).toInt = 60 := rfl
theorem i_70 : (70 : Int32).toInt = 70 := rfl
theorem i_80 : (80 : Int32).toInt = 80 := rfl
theorem i_97 : (97 : Int32).toInt = 97 := rfl
theorem i_99 : (99 : Int32).toInt = 99 := rfl
theorem i_100 : (100 : Int32).toInt = 100 := rfl
theorem i_144 : (144 : Int32).toInt = 144 := rfl
theorem i_156 : (156 : Int32).toInt = 156 := rfl
theorem i_255 : (255 : Int32).toInt = 255 := rfl
theorem i_256 : (256 : Int32).toInt = 256 := rfl
theorem i_999 : (999 : Int32).toInt = 999 := rfl
theorem i_10000 : (10000 : Int32).toInt = 10000 := rfl
theorem i_1000000 : (1000000 : Int32).toInt = 1000000 := rfl
theorem i_1000000000 : (1000000000 : Int32).toInt = 1000000000 := rfl
theorem i_100000 : (100000 : Int32).toInt = 100000 := rfl
/-- an int that is a vertex -/
theorem i_arg {x : Int32} {n : Nat} (h0 : 0 ≤ x.toInt) (h : x.toInt < n) : ∃ k : Nat, k < n ∧ x = nI k := by
  refine ⟨x.toInt.toNat, by omega, ?_⟩
  rw [i_eq, i_nI (by have := i_rng x; omega)]
  omega
theorem i_cl {k : Nat} (h : k < 2147483648) : (nI k).toNatClampNeg = k := nI_clamp h
theorem i_in {k n : Nat} (h : k < n) (hn : n < 2147483648) : vp_in (nI k) n := vp_in_nI h hn
theorem i_nlt {a b : Nat} (ha : a < 2147483648) (hb : b < 2147483648) : nI a < nI b ↔ a < b := nI_ltI ha hb
theorem i_nle {a b : Nat} (ha : a < 2147483648) (hb : b < 2147483648) : nI a ≤ nI b ↔ a ≤ b := nI_leI ha hb
theorem i_neq {a b : Nat} (ha : a < 2147483648) (hb : b < 2147483648) : nI a = nI b ↔ a = b := nI_eq ha hb
theorem nI_lit (n : Nat) : (OfNat.ofNat n : Int32) = nI n := rfl
theorem upd_s {f : Nat → Int32} {k : Nat} {x : Int32} : upd f k x k = x := by simp [upd]
theorem upd_n {f : Nat → Int32} {k j : Nat} {x : Int32} (h : j ≠ k) : upd f k x j = f j := by simp [upd, h]
theorem wrA_s {m : Mem} {j : Nat} {g : Nat → Int32} : wrA m j g j = g := by simp [wrA]
theorem wrA_n {m : Mem} {j a : Nat} {g : Nat → Int32} (h : a ≠ j) : wrA m j g a = m a := by simp [wrA, h]
/-- loops that count up -/
theorem up_loop {P : Nat → Prop} {n i : Nat} (hi : i ≤ n) (hn : P n) (hs : ∀ k, i ≤ k → k < n → P (k + 1) → P k) : P i := by
  obtain ⟨d, rfl⟩ : ∃ d, n = i + d := ⟨n - i, by omega⟩
  clear hi
  induction d generalizing i with
  | zero => exact hn
  | succ d ih =>
    refine hs i (Nat.le_refl _) (by omega) (ih (i := i + 1) (by rw [show i + 1 + d = i + (d + 1) by omega]; exact hn) (fun k h1 h2 => hs k (by omega) (by omega)))
theorem wr_s {m : Mem} {j k : Nat} {v : Int32} : wr m j k v j = upd (m j) k v := by simp [wrA]
theorem wr_n {m : Mem} {j k a : Nat} {v : Int32} (h : a ≠ j) : wr m j k v a = m a := by simp [wrA, h]
theorem wr_at {m : Mem} {j k a b : Nat} {v : Int32} : wr m j k v a b = if a = j ∧ b = k then v else m a b := by
  by_cases h : a = j
  · subst h
    by_cases h2 : b = k
    · subst h2; simp [wrA, upd]
    · simp [wrA, upd, h2]
  · simp [wrA, h]
theorem wrA_at {m : Mem} {j a b : Nat} {g : Nat → Int32} : wrA m j g a b = if a = j then g b else m a b := by
  by_cases h : a = j
  · subst h; simp [wrA]
  · simp [wrA, h]
