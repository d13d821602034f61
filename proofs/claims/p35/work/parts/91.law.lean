/-! THE LAW: its judgement; cell -/
abbrev M_law (nm : String) : MTy := (⟨RL, nm, "([I)Z"⟩, code, 7, ret, room_1)
abbrev AL : State → Nat → Prop := fun s q => s.heap.size ≤ q
abbrev ZL : List Frame → Array Value → State → State → Prop := fun below args s => lw_Z below args s
abbrev EL (q : E5) : Array Value → State → Prop := fun args s => args = #[.ref q.2.2.1] ∧ Ex q (AL s) s s.heap
abbrev XLw (l : Launch) (nm : String) (q : E5) (G : Gx) (mem : Mem) (pc : Nat) (lv : Lv) (st : List Value) : Prop := Xg l (M_law nm) AL ZL (EL q) G 600000 7302250 mem pc lv st
theorem x_lend {l : Launch} {nm : String} {q : E5} {G : Gx} {mem : Mem} {pc : Nat} {lv : Lv} (hdg : decode code pc = .ok (.ireturn, 1)) : XLw l nm q G mem pc lv [.int 1] := by
  intro p e s m args below meth c H locs ls C hP hD hS hL
  obtain ⟨e1, e2⟩ := C.2.2.2.2.2.2.2.2.2.2
  subst e1
  exact va_forget hS.2.2 (lw_ret C.1 C.2.1 C.2.2.2.2.2.1 C.2.2.2.2.2.2.1 hdg)
theorem rm_law {Mc : MTy} {mc ms cells slots : Nat} (nm : String) (h : RmOk Mc (M_law "") mc ms cells slots) : RmOk Mc (M_law nm) mc ms cells slots := h
theorem and_nn (x : Int32) : 0 ≤ (x &&& 2147483647).toInt := by
  have h : (x &&& 2147483647).toBitVec.toNat ≤ 2147483647 := by
    rw [Int32.toBitVec_and, BitVec.toNat_and]
    exact Nat.and_le_right
  have e : (x &&& 2147483647).toInt = ((x &&& 2147483647).toBitVec.toNat : Int) := by
    show (x &&& 2147483647).toBitVec.toInt = _
    rw [BitVec.toInt_eq_toNat_of_lt (by omega)]
  rw [e]
  omega
section CE
variable {l : Launch} {G : Gx} {mem : Mem} {q : E5}
theorem x_slenQ {M : MTy} {A : State → Nat → Prop} {Z : List Frame → Array Value → State → State → Prop} {E : Array Value → State → Prop} {cells slots pc : Nat} {lv : Lv} {st : List Value} (hEx : ∀ args s, E args s → Ex q (A s) s s.heap) (hdg : decode M.2.1 pc = .ok (.arraylength, 1)) (kk : Xg l M A Z E G cells slots mem (pc + 1) lv (.int (Int32.ofNat q.2.2.2.1) :: st)) : Xg l M A Z E G cells slots mem pc lv (.ref q.2.2.1 :: st) := by
  intro p e s m args below meth c H locs ls C hP hD hS hL
  obtain ⟨-, -, -, -, h1, h2, h3⟩ := hEx _ _ C.2.2.2.2.2.2.2.2.2.2
  exact va_slen C.1 C.2.1 h1 h2 h3 hS hdg (kk p e s m args below meth c H locs _ C hP hD hS hL)
theorem x_sldQ {M : MTy} {A : State → Nat → Prop} {Z : List Frame → Array Value → State → State → Prop} {E : Array Value → State → Prop} {cells slots pc : Nat} {lv : Lv} {st : List Value} {i : Int32} (hEx : ∀ args s, E args s → Ex q (A s) s s.heap) (hin : vp_in i q.2.2.2.1) (hdg : decode M.2.1 pc = .ok (.iaload, 1)) (kk : Xg l M A Z E G cells slots mem (pc + 1) lv (.int (q.2.2.2.2 i.toNatClampNeg) :: st)) : Xg l M A Z E G cells slots mem pc lv (.int i :: .ref q.2.2.1 :: st) := by
  intro p e s m args below meth c H locs ls C hP hD hS hL
  obtain ⟨-, -, -, -, h1, h2, h3⟩ := hEx _ _ C.2.2.2.2.2.2.2.2.2.2
  exact va_sld C.1 C.2.1 h1 h2 h3 hS hin hdg (kk p e s m args below meth c H locs _ C hP hD hS hL)
theorem c_cell {k : Nat} (hk : k < 2147483648) (hL : q.2.2.2.1 ≤ 260) : CeI l M_L_cell q G [.ref q.2.2.1, .int (nI k)] mem (fun r m => m = mem ∧ 0 ≤ r.toInt) := by
  refine CtE.of (by decide) (Nat.le_of_ble_eq_true rfl) rfl ?_
  have fin : ∀ x : Int32, XJ l M_L_cell q G (fun r m => m = mem ∧ 0 ≤ r.toInt) mem 20 [(0, .ref q.2.2.1), (1, .int (nI k))] [.int x] := by
    intro x
    refine x_ldc (pc := 20) (v := 2147483647) dL_cell_20 tb_227 ?_
    refine x_iand (pc := 22) dL_cell_22 ?_
    exact e_endJ (pc := 23) dL_cell_23 rfl ⟨rfl, and_nn x⟩
  refine x_iload_n (pc := 0) dL_cell_0 1 rfl rfl ?_
  refine x_aload_n (pc := 1) dL_cell_1 0 rfl rfl ?_
  refine x_slenQ (pc := 2) (fun _ _ h => h) dL_cell_2 ?_
  refine x_icmp_ge (pc := 3) (tgt := 12) dL_cell_3 (by decide) (fun _ => ?_) (fun z => ?_)
  · refine x_ldc (pc := 12) (v := 15568003) dL_cell_12 tb_226 ?_
    refine x_iload_n (pc := 14) dL_cell_14 1 rfl rfl ?_
    refine x_imul (pc := 15) dL_cell_15 ?_
    refine x_sipush (pc := 16) (v := 10069) dL_cell_16 (by decide) ?_
    refine x_iadd (pc := 19) dL_cell_19 ?_
    exact fin _
  · have hin : vp_in (nI k) q.2.2.2.1 := by
      refine i_in ?_ (by omega)
      apply Classical.byContradiction
      intro c
      exact z ((i_nle (by omega) hk).mpr (by omega))
    refine x_aload_n (pc := 6) dL_cell_6 0 rfl rfl ?_
    refine x_iload_n (pc := 7) dL_cell_7 1 rfl rfl ?_
    refine x_sldQ (pc := 8) (fun _ _ h => h) hin dL_cell_8 ?_
    refine x_goto (pc := 9) (tgt := 20) dL_cell_9 (by decide) ?_
    exact fin _
end CE
