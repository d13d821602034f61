/-! THE LAW: its loop -/
abbrev M_law (nm : String) : MTy := (⟨RL, nm, "([I)Z"⟩, code, 4, ret, room_1)
abbrev AL : State → Nat → Prop := fun s q => s.heap.size ≤ q
abbrev ZL : List Frame → Array Value → State → State → Prop := fun below args s => lw_Z below args s
abbrev EL (b L : Nat) (xs : Nat → Int32) : Array Value → State → Prop := fun args s => args = #[.ref b] ∧ va_X b L xs s s.heap ∧ b < s.heap.size
abbrev XLw (l : Launch) (nm : String) (b L : Nat) (xs : Nat → Int32) (G : Gx) (mem : Mem) (pc : Nat) (lv : Lv) (st : List Value) : Prop := Xg l (M_law nm) AL ZL (EL b L xs) G 600000 7302250 mem pc lv st
theorem x_slen {l : Launch} {nm : String} {b L : Nat} {xs : Nat → Int32} {G : Gx} {cells slots : Nat} {mem : Mem} {pc : Nat} {lv : Lv} {st : List Value} (hdg : decode code pc = .ok (.arraylength, 1)) (kk : Xg l (M_law nm) AL ZL (EL b L xs) G cells slots mem (pc + 1) lv (.int (Int32.ofNat L) :: st)) : Xg l (M_law nm) AL ZL (EL b L xs) G cells slots mem pc lv (.ref b :: st) := by
  intro p e s m args below meth c H locs ls C hP hD hS hL
  obtain ⟨e1, e2, e3⟩ := C.2.2.2.2.2.2.2.2.2.2
  exact va_slen C.1 C.2.1 e2 e3 (Nat.not_le.mpr e3) hS hdg (kk p e s m args below meth c H locs _ C hP hD hS hL)
theorem x_sld {l : Launch} {nm : String} {b L : Nat} {xs : Nat → Int32} {G : Gx} {cells slots : Nat} {mem : Mem} {pc : Nat} {lv : Lv} {st : List Value} {i : Int32} (hin : vp_in i L) (hdg : decode code pc = .ok (.iaload, 1)) (kk : Xg l (M_law nm) AL ZL (EL b L xs) G cells slots mem (pc + 1) lv (.int (xs i.toNatClampNeg) :: st)) : Xg l (M_law nm) AL ZL (EL b L xs) G cells slots mem pc lv (.int i :: .ref b :: st) := by
  intro p e s m args below meth c H locs ls C hP hD hS hL
  obtain ⟨e1, e2, e3⟩ := C.2.2.2.2.2.2.2.2.2.2
  exact va_sld C.1 C.2.1 e2 e3 (Nat.not_le.mpr e3) hS hin hdg (kk p e s m args below meth c H locs _ C hP hD hS hL)
theorem x_lend {l : Launch} {nm : String} {b L : Nat} {xs : Nat → Int32} {G : Gx} {mem : Mem} {pc : Nat} {lv : Lv} (hdg : decode code pc = .ok (.ireturn, 1)) : XLw l nm b L xs G mem pc lv [.int 1] := by
  intro p e s m args below meth c H locs ls C hP hD hS hL
  obtain ⟨e1, e2, e3⟩ := C.2.2.2.2.2.2.2.2.2.2
  subst e1
  exact va_forget hS.2.2 (lw_ret C.1 C.2.1 C.2.2.2.2.2.1 C.2.2.2.2.2.2.1 hdg)
theorem and31 (x : Int32) : 0 ≤ (x &&& 31).toInt ∧ (x &&& 31).toInt ≤ 31 := by
  have h : (x &&& 31).toBitVec.toNat ≤ 31 := by
    rw [Int32.toBitVec_and, BitVec.toNat_and]
    exact Nat.and_le_right
  have e : (x &&& 31).toInt = ((x &&& 31).toBitVec.toNat : Int) := by
    show (x &&& 31).toBitVec.toInt = _
    rw [BitVec.toInt_eq_toNat_of_lt (by omega)]
  rw [e]
  omega
section LAW
variable {l : Launch} {nm : String} {b L i : Nat} {xs : Nat → Int32} {G : Gx} {mem : Mem}
/-- the law's locals -/
abbrev lvL (b i : Nat) (G : Gx) : Lv := [(3, .int (nI i)), (2, .ref (gA G 327)), (1, .ref (gA G 0)), (0, .ref b)]
theorem lg_self (x : Int64) : lg_cmp x x = 0 := by
  unfold lg_cmp
  have h : ¬ x > x := fun z => by
    have z : x < x := z
    rw [Int64.lt_iff_toInt_lt] at z
    omega
  rw [if_neg h, if_pos rfl]
theorem rm_law {Mc : MTy} {mc ms cells slots : Nat} (nm : String) (h : RmOk Mc (M_law "") mc ms cells slots) : RmOk Mc (M_law nm) mc ms cells slots := h
end LAW
