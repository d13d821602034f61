/-! the law's string constant and its script: what holds beside the objects; charAt -/
abbrev E5 := Nat × Nat × Nat × Nat × (Nat → Int32)
def Ex (q : E5) (A : Nat → Prop) (U : State) (H : Heap) : Prop :=
  vk_R RL 122 "a0Fz" q.1 U ∧ vk_S 1 [4] [[97, 48, 70, 122]] (fun _ => q.1) (fun _ => q.2.1) A U H ∧ va_Z "java/lang/String" "COMPACT_STRINGS" "Z" (.int 1) A U H ∧ va_Zq "jdk/internal/util/Preconditions" "SIOOBE_FORMATTER" "Ljava/util/function/BiFunction;" A U H ∧ va_X q.2.2.1 q.2.2.2.1 q.2.2.2.2 U H ∧ q.2.2.1 < H.size ∧ ¬ A q.2.2.1
theorem Ex.go {q : E5} {A B : Nat → Prop} {s U : State} {H : Heap} {locs : List Loc} (h : Ex q A s s.heap) (hS : va_S A s.heap H locs) (hU : U.heap = H) (hW : s.WarmedH U.vm) (hB : ∀ q, B q → A q) : Ex q B U U.heap := by
  obtain ⟨h1, h2, h3, h4, h5, h6, h7⟩ := h
  subst hU
  exact ⟨vk_R.warm hW h1, ((h2.moved hW.alike).kept hS.2.1).narrow hB, ((h3.moved hW.alike).kept hS.2.1).narrow hB, ((h4.moved hW.alike).kept hS.2.1).narrow hB, (h5.moved hW.alike).kept (hS.2.1 _ h6 h7), Nat.lt_of_lt_of_le h6 hS.1, fun z => h7 (hB _ z)⟩
/-- a contract that needs them -/
def CtE (l : Launch) (M : MTy) (q : E5) (G : Gx) (As : List Value) (mem : Mem) (P : Option Value → Mem → Prop) : Prop :=
  ∀ sz : Nat, Met l M.1 (wsM M) M.2.2.2.2 (va_Pc As (fun U => Pm G mem sz U ∧ Ex q (Fr G sz) U U.heap)) (Qm G (fun o G' m' => G' = G ∧ P o m') sz) 0 0 (Fr G sz)
abbrev CeI (l : Launch) (M : MTy) (q : E5) (G : Gx) (As : List Value) (mem : Mem) (P : Int32 → Mem → Prop) : Prop := CtE l M q G As mem (fun o m' => ∃ r, o = some (.int r) ∧ P r m')
abbrev XE (l : Launch) (M : MTy) (q : E5) (G : Gx) (P : Option Value → Mem → Prop) (mem : Mem) (pc : Nat) (lv : Lv) (st : List Value) : Prop :=
  Xg l M (fun s => Fr G s.heap.size) (fun below args s => MQ below (Qm G (fun o G' m' => G' = G ∧ P o m') s.heap.size) args s 0 0 (Fr G s.heap.size)) (fun _ s => Ex q (Fr G s.heap.size) s s.heap) G 0 0 mem pc lv st
abbrev XJ (l : Launch) (M : MTy) (q : E5) (G : Gx) (P : Int32 → Mem → Prop) (mem : Mem) (pc : Nat) (lv : Lv) (st : List Value) : Prop := XE l M q G (fun o m' => ∃ r, o = some (.int r) ∧ P r m') mem pc lv st
theorem CtE.of {l : Launch} {M : MTy} {q : E5} {G : Gx} {As : List Value} {mem : Mem} {P : Option Value → Mem → Prop} (hy : plainName M.1.cls = true) (hn : (lg_sl As).length ≤ M.2.2.1) {lv : Lv} (hlv : lv_args 0 As = lv)
    (k : XE l M q G P mem 0 lv []) : CtE l M q G As mem P := by
  intro sz
  refine Met.ofW (cc := M.2.1) (maxL := M.2.2.1) (ret := M.2.2.2.1) hy rfl ?_
  intro p e s m args below meth c s₁ B hml hv
  obtain ⟨rfl, ⟨hsz, hP, hK, hD0⟩, hE⟩ := hv
  have hts := atoms_spec (ws := wsM M) B.pre
  subst hsz
  have hC : Cx M (fun s => Fr G s.heap.size) (fun _ s => Ex q (Fr G s.heap.size) s s.heap) G p s m As.toArray meth c :=
    ⟨B.exec, B.bytes, hml, findClass_of_methodNamed B.named, fun w h => hts w (List.mem_cons_of_mem _ h), B.returns, B.notSynchronized, (name_of_methodNamed B.named B.method).1, hK, fun q h => Or.inr h, hE⟩
  have hl := lv_entry As (n := M.2.2.1) hn
  rw [hlv] at hl
  rw [lg_entry_eq]
  exact k p e s m As.toArray below meth c s.heap [] _ hC hP (hD0.weaken (fun k q hq _ => by obtain ⟨h1, rfl⟩ := wd_mem hq; exact Or.inl ⟨k, h1, rfl⟩)) va_S.rf hl
theorem CtE.mono {l : Launch} {M : MTy} {q : E5} {G : Gx} {As : List Value} {mem : Mem} {P P' : Option Value → Mem → Prop} (h : CtE l M q G As mem P) (hp : ∀ o m', P o m' → P' o m') : CtE l M q G As mem P' := by
  intro sz p e ha hc hk s m args below hf h1 h2 h3
  obtain ⟨k, o, g1, g2, g3, ⟨⟨⟨o1, G', m', e1, ⟨e0, e2⟩, e3⟩, e4⟩, e5⟩⟩ := h sz p e ha hc hk s m args below hf h1 h2 h3
  exact ⟨k, o, g1, g2, g3, ⟨⟨⟨o1, G', m', e1, ⟨e0, hp _ _ e2⟩, e3⟩, e4⟩, e5⟩⟩
/-- a contract that doesn't need them serves as well -/
theorem CtE.ofCt {l : Launch} {M : MTy} {q : E5} {G : Gx} {As : List Value} {mem : Mem} {P : Option Value → Mem → Prop} (h : Ct l M G As mem P) : CtE l M q G As mem P := by
  intro sz p e ha hc hk s m args below hf h1 h2 h3
  exact h sz p e ha hc hk s m args below hf h1 ⟨h2.1, h2.2.1⟩ h3
theorem PmE_blind {q : E5} {G : Gx} {mem : Mem} {sz : Nat} {As : List Value} : FrameBlind (va_Pc As (fun U => Pm G mem sz U ∧ Ex q (Fr G sz) U U.heap)) := by
  intro a U g mk h
  obtain ⟨q0, ⟨q1, qP, qK, qD⟩, h1, h2, h3, h4, h5, h6⟩ := h
  exact ⟨q0, ⟨q1, qP, Kx.moved (u := U) (U := U.calling g mk a) (Vm.Alike.refl U.vm) qK, qD⟩, vk_R.same (u := U) rfl h1, h2.moved (u := U) (Vm.Alike.refl U.vm), h3.moved (u := U) (Vm.Alike.refl U.vm), h4.moved (u := U) (Vm.Alike.refl U.vm), h5.moved (u := U) (Vm.Alike.refl U.vm), h6⟩
section XQ
variable {l : Launch} {M : MTy} {A : State → Nat → Prop} {Z : List Frame → Array Value → State → State → Prop} {E : Array Value → State → Prop} {G : Gx} {cells slots : Nat} {mem : Mem} {pc : Nat} {lv : Lv} {st : List Value} {q : E5}
/-- a static call of a method that needs them -/
theorem x_callSE {Mc : MTy} {index n : Nat} {As rest : List Value} {P : Option Value → Mem → Prop} (hct : CtE l Mc q G As mem P) (hEx : ∀ args s, E args s → Ex q (A s) s s.heap) (hok : OkS Mc n) (hdg : decode M.2.1 pc = .ok (.invokestatic index, 3)) (w1 : Cond.methodLink M.1.cls index Mc.1 ∈ TB) (hrm : RmOk Mc M 0 0 cells slots)
    (hn : As.length = n) (hst : st = As.reverse ++ rest) (hcat : (rest.map fun v => v.category).sum ≤ 8)
    (kk : ∀ (o : Option Value) (mem' : Mem), P o mem' → Xg l M A Z E G cells slots mem' (pc + 3) lv (o.toList ++ rest)) : Xg l M A Z E G cells slots mem pc lv st := by
  intro p e s m args below meth c H locs ls C hP hD hS hL
  obtain ⟨w2, w4, w5, hy⟩ := hok
  have hrun := va_runS (p := p) (e := e) (R := M.2.2.2.2) (below := below) (meth := meth) (H := H) (locs := locs) (cells := cells) (slots := slots) (g := F0 m pc ls st) (As := As) (rest := rest) (S := ⟨C.1, C.2.1, C.2.2.1, C.2.2.2.1, C.2.2.2.2.1⟩) (hM := hct H.size) (cw := ⟨callB_of n C.2.2.2.2.1 (gI_TB w5) rfl hrm.1.1 hrm.1.2 (C.2.2.2.2.1 _ w4) (C.2.2.2.2.1 _ w1) hy hrm.2.1, C.2.2.2.2.1 _ w2⟩)
    ⟨PmE_blind, fun U hU hW => ⟨rfl, ⟨by rw [hU], by rw [hU]; exact hP, Kx.moved hW.alike C.2.2.2.2.2.2.2.2.1, hD.weaken (fun _ _ _ _ => trivial)⟩, (hEx _ _ C.2.2.2.2.2.2.2.2.2.2).go hS hU hW (Fr_sub hD hS C.2.2.2.2.2.2.2.2.2.1)⟩⟩ rfl hn hL.1 hst (lv_room hcat) hdg hrm.2.2
  exact x_run hrun hD hS C.2.2.2.2.2.2.2.2.2.1 (fun o G' mem' H1 locs1 hp hd1 hd2 hP1 hD1 hS1 => by
    obtain ⟨rfl, hp⟩ := hp
    exact kk o mem' hp p e s m args below meth c H1 locs1 ls C hP1 hD1 hS1 hL)
/-- a call on the string -/
theorem x_callQE {Mc : MTy} {index n : Nat} {As rest : List Value} {P : Option Value → Mem → Prop} (hct : CtE l Mc q G (.ref q.1 :: As) mem P) (hEx : ∀ args s, E args s → Ex q (A s) s s.heap) (hok : OkV Mc "java/lang/String" n) (hdg : decode M.2.1 pc = .ok (.invokevirtual index, 3)) (w1 : Cond.methodLink M.1.cls index Mc.1 ∈ TB) (hrm : RmOk Mc M 0 0 cells slots)
    (hn : As.length = n) (hst : st = As.reverse ++ .ref q.1 :: rest) (hcat : (rest.map fun v => v.category).sum ≤ 8)
    (kk : ∀ (o : Option Value) (mem' : Mem), P o mem' → Xg l M A Z E G cells slots mem' (pc + 3) lv (o.toList ++ rest)) : Xg l M A Z E G cells slots mem pc lv st := by
  intro p e s m args below meth c H locs ls C hP hD hS hL
  obtain ⟨w2, w3, w4, w5, hy⟩ := hok
  have hT : GoodIn TB (wsV M.1.cls index "java/lang/String" Mc.1 (wsM Mc)) := by
    intro w h
    rcases List.mem_append.mp h with h | h
    · have : w = Cond.methodLink M.1.cls index Mc.1 ∨ w = Cond.instanceMethod Mc.1 ∨ w = Cond.selects "java/lang/String" Mc.1 Mc.1 ∨ w = Cond.initialized "java/lang/String" := by simpa using h
      rcases this with rfl | rfl | rfl | rfl
      · exact ⟨w1, TB_good w1⟩
      · exact ⟨w2, TB_good w2⟩
      · exact ⟨w3, TB_good w3⟩
      · exact ⟨w4, TB_good w4⟩
    · exact gI_TB w5 w h
  have hE := hEx _ _ C.2.2.2.2.2.2.2.2.2.2
  have hrun := va_runV (p := p) (e := e) (R := M.2.2.2.2) (below := below) (meth := meth) (H := H) (locs := locs) (cells := cells) (slots := slots) (g := F0 m pc ls st) (b := q.1) (As := As) (rest := rest) (S := ⟨C.1, C.2.1, C.2.2.1, C.2.2.2.1, C.2.2.2.2.1⟩) (hM := hct H.size) (cw := cwV n C.2.2.2.2.1 hT rfl hrm.1.1 hrm.1.2 hy hrm.2.1)
    ⟨PmE_blind, vk_recv (i := 0) hE.2.1 (by decide) hS, fun U hU hW => ⟨rfl, ⟨by rw [hU], by rw [hU]; exact hP, Kx.moved hW.alike C.2.2.2.2.2.2.2.2.1, hD.weaken (fun _ _ _ _ => trivial)⟩, hE.go hS hU hW (Fr_sub hD hS C.2.2.2.2.2.2.2.2.2.1)⟩⟩ rfl hn hL.1 hst (lv_room hcat) hdg hrm.2.2
  exact x_run hrun hD hS C.2.2.2.2.2.2.2.2.2.1 (fun o G' mem' H1 locs1 hp hd1 hd2 hP1 hD1 hS1 => by
    obtain ⟨rfl, hp⟩ := hp
    exact kk o mem' hp p e s m args below meth c H1 locs1 ls C hP1 hD1 hS1 hL)
theorem x_ldcQ (hEx : ∀ args s, E args s → Ex q (A s) s s.heap) (hM : M.1.cls = RL) (hdg : decode M.2.1 pc = .ok (.ldc 122, 2)) (kk : Xg l M A Z E G cells slots mem (pc + 2) lv (.ref q.1 :: st)) : Xg l M A Z E G cells slots mem pc lv st := by
  intro p e s m args below meth c H locs ls C hP hD hS hL
  have hown := C.2.2.2.1
  rw [hM] at hown
  exact va_ldcS C.1 C.2.1 hown (hEx _ _ C.2.2.2.2.2.2.2.2.2.2).1 hdg (kk p e s m args below meth c H locs ls C hP hD hS hL)
theorem x_pop {v : Value} (hdg : decode M.2.1 pc = .ok (.pop, 1)) (hv : v.category = 1) (kk : Xg l M A Z E G cells slots mem (pc + 1) lv st) : Xg l M A Z E G cells slots mem pc lv (v :: st) := by
  intro p e s m args below meth c H locs ls C hP hD hS hL
  exact lv_pop C.1 C.2.1 hdg hv (kk p e s m args below meth c H locs ls C hP hD hS hL)
theorem x_i2c {x v : Int32} (hdg : decode M.2.1 pc = .ok (.i2c, 1)) (hv : (x.toUInt32 % 65536).toInt32 = v) (kk : Xg l M A Z E G cells slots mem (pc + 1) lv (.int v :: st)) : Xg l M A Z E G cells slots mem pc lv (.int x :: st) := by
  intro p e s m args below meth c H locs ls C hP hD hS hL
  exact lv_i2c C.1 C.2.1 hdg hv (kk p e s m args below meth c H locs ls C hP hD hS hL)
theorem x_getQ {index : Nat} {n d : String} {v : Value} (hEx : ∀ args s, E args s → va_OF "java/lang/String" n d v q.1 (A s) s s.heap) (hA : ∀ args s H locs, E args s → va_S (A s) s.heap H locs → True) (hdg : decode M.2.1 pc = .ok (.getfield index, 3)) (w : Cond.fieldLink M.1.cls index "java/lang/String" n d ∈ TB) (kk : Xg l M A Z E G cells slots mem (pc + 3) lv (v :: st)) : Xg l M A Z E G cells slots mem pc lv (.ref q.1 :: st) := by
  intro p e s m args below meth c H locs ls C hP hD hS hL
  exact vk_getf C.1 C.2.1 (hEx _ _ C.2.2.2.2.2.2.2.2.2.2) hS C.2.2.2.1 (C.2.2.2.2.1 _ w) (fun _ h => h) hdg (kk p e s m args below meth c H locs ls C hP hD hS hL)
theorem x_getS {index : Nat} {cl n d : String} {v : Value} (hEx : ∀ args s, E args s → va_Z cl n d v (A s) s s.heap) (hdg : decode M.2.1 pc = .ok (.getstatic index, 3)) (w : Cond.fieldLink M.1.cls index cl n d ∈ TB) (kk : Xg l M A Z E G cells slots mem (pc + 3) lv (v :: st)) : Xg l M A Z E G cells slots mem pc lv st := by
  intro p e s m args below meth c H locs ls C hP hD hS hL
  exact va_gets C.1 C.2.1 (hEx _ _ C.2.2.2.2.2.2.2.2.2.2) hS C.2.2.2.1 (C.2.2.2.2.1 _ w) (fun _ h => h) hdg (kk p e s m args below meth c H locs ls C hP hD hS hL)
theorem x_getSq {index : Nat} {cl n d : String} (hEx : ∀ args s, E args s → va_Zq cl n d (A s) s s.heap) (hdg : decode M.2.1 pc = .ok (.getstatic index, 3)) (w : Cond.fieldLink M.1.cls index cl n d ∈ TB) (kk : ∀ v : Value, (v = .null ∨ ∃ t, v = .ref t) → Xg l M A Z E G cells slots mem (pc + 3) lv (v :: st)) : Xg l M A Z E G cells slots mem pc lv st := by
  intro p e s m args below meth c H locs ls C hP hD hS hL
  rcases hEx _ _ C.2.2.2.2.2.2.2.2.2.2 with h | ⟨t, h⟩
  · exact va_gets C.1 C.2.1 h hS C.2.2.2.1 (C.2.2.2.2.1 _ w) (fun _ h => h) hdg (kk _ (Or.inl rfl) p e s m args below meth c H locs ls C hP hD hS hL)
  · exact va_gets C.1 C.2.1 h hS C.2.2.2.1 (C.2.2.2.2.1 _ w) (fun _ h => h) hdg (kk _ (Or.inr ⟨t, rfl⟩) p e s m args below meth c H locs ls C hP hD hS hL)
theorem x_blenQ (hEx : ∀ args s, E args s → Ex q (A s) s s.heap) (hdg : decode M.2.1 pc = .ok (.arraylength, 1)) (kk : Xg l M A Z E G cells slots mem (pc + 1) lv (.int 4 :: st)) : Xg l M A Z E G cells slots mem pc lv (.ref q.2.1 :: st) := by
  intro p e s m args below meth c H locs ls C hP hD hS hL
  exact va_tlen C.1 C.2.1 ((hEx _ _ C.2.2.2.2.2.2.2.2.2.2).2.1.1 0 (by decide)).2.2.2 hS rfl hdg (kk p e s m args below meth c H locs ls C hP hD hS hL)
theorem x_bldQ {k : Nat} (hk : k < 4) (hEx : ∀ args s, E args s → Ex q (A s) s s.heap) (hdg : decode M.2.1 pc = .ok (.baload, 1)) (kk : Xg l M A Z E G cells slots mem (pc + 1) lv (.int (([97, 48, 70, 122] : List Int32).getD k 0) :: st)) : Xg l M A Z E G cells slots mem pc lv (.int (nI k) :: .ref q.2.1 :: st) := by
  intro p e s m args below meth c H locs ls C hP hD hS hL
  exact va_tb C.1 C.2.1 ((hEx _ _ C.2.2.2.2.2.2.2.2.2.2).2.1.1 0 (by decide)).2.2.2 hS (i_in (k := k) (n := 4) hk (by decide)) (by rw [i_cl (by omega)]; rfl) hdg (kk p e s m args below meth c H locs ls C hP hD hS hL)
end XQ
section XR
variable {l : Launch} {M : MTy} {G : Gx} {mem : Mem} {pc : Nat} {lv : Lv} {q : E5}
theorem e_ret {P : Option Value → Mem → Prop} {v : Int32} {ty : FieldType} (hdg : decode M.2.1 pc = .ok (.ireturn, 1)) (hr : M.2.2.2.1 = some ty) (hv : narrow ty (.int v) = .int v) (h : P (some (.int v)) mem) : XE l M q G P mem pc lv [.int v] := by
  intro p e s m args below meth c H locs ls C hP hD hS hL
  exact W.zret C.1 C.2.1 (C.2.2.2.2.2.1.trans hr) hv (fun t ht _ => Qm_of ⟨rfl, h⟩ rfl rfl hP hD hS ht) hS.2.2 hdg C.2.2.2.2.2.2.1
theorem e_endJ {P : Int32 → Mem → Prop} {v : Int32} (hdg : decode M.2.1 pc = .ok (.ireturn, 1)) (hr : M.2.2.2.1 = some .int) (h : P v mem) : XJ l M q G P mem pc lv [.int v] := by
  intro p e s m args below meth c H locs ls C hP hD hS hL
  exact W.iret C.1 C.2.1 (C.2.2.2.2.2.1.trans hr) (fun t ht _ => Qm_of (P := fun o G' m' => G' = G ∧ ∃ r, o = some (.int r) ∧ P r m') ⟨rfl, _, rfl, h⟩ rfl rfl hP hD hS ht) hS.2.2 hdg C.2.2.2.2.2.2.1
theorem e_vret {P : Option Value → Mem → Prop} (hdg : decode M.2.1 pc = .ok (.return_, 1)) (hr : M.2.2.2.1 = none) (h : P none mem) : XE l M q G P mem pc lv [] := by
  intro p e s m args below meth c H locs ls C hP hD hS hL
  exact W.vret C.1 C.2.1 (C.2.2.2.2.2.1.trans hr) (fun t ht _ => Qm_of (P := fun o G' m' => G' = G ∧ P o m') ⟨rfl, h⟩ rfl rfl hP hD hS ht) hS.2.2 hdg C.2.2.2.2.2.2.1
end XR
abbrev M_J0_charAt_5068e : MTy := (yJ0_charAt_5068e, cJ0_charAt_5068e, 2, (some .char), { frames := 4, cells := 0, slots := 0, locals := 85 })
theorem ok_J0_charAt_5068e : OkV M_J0_charAt_5068e "java/lang/String" 1 := ⟨tb_652, tb_653, tb_41, tb_654, rfl, by decide, by decide, by decide +kernel⟩
abbrev M_J0_isLatin1_aae02 : MTy := (yJ0_isLatin1_aae02, cJ0_isLatin1_aae02, 1, (some .boolean), { frames := 0, cells := 0, slots := 0, locals := 0 })
theorem ok_J0_isLatin1_aae02 : OkV M_J0_isLatin1_aae02 "java/lang/String" 0 := ⟨tb_656, tb_657, tb_41, tb_658, rfl, by decide, by decide, by decide +kernel⟩
abbrev M_J1_charAt_3b067 : MTy := (yJ1_charAt_3b067, cJ1_charAt_3b067, 2, (some .char), { frames := 2, cells := 0, slots := 0, locals := 43 })
theorem ok_J1_charAt_3b067 : OkS M_J1_charAt_3b067 2 := ⟨tb_662, tb_42, tb_663, by decide, by decide, by decide +kernel⟩
abbrev M_J0_checkIndex_df160 : MTy := (yJ0_checkIndex_df160, cJ0_checkIndex_df160, 2, none, { frames := 1, cells := 0, slots := 0, locals := 22 })
theorem ok_J0_checkIndex_df160 : OkS M_J0_checkIndex_df160 2 := ⟨tb_665, tb_41, tb_666, by decide, by decide, by decide +kernel⟩
abbrev M_J3_checkIndex_8e157 : MTy := (yJ3_checkIndex_8e157, cJ3_checkIndex_8e157, 3, (some .int), { frames := 0, cells := 0, slots := 0, locals := 0 })
theorem ok_J3_checkIndex_8e157 : OkS M_J3_checkIndex_8e157 3 := ⟨tb_670, tb_43, tb_671, by decide, by decide, by decide +kernel⟩
section XC4
variable {l : Launch} {G : Gx} {mem : Mem} {q : E5}
def chQ (k : Nat) : Int32 := ([97, 48, 70, 122] : List Int32).getD k 0
theorem c_ckP {k : Nat} (hk : k < 4) (v : Value) (hv : v = .null ∨ ∃ t, v = .ref t) : CeI l M_J3_checkIndex_8e157 q G [.int (nI k), .int 4, v] mem (fun r m => m = mem) := by
  have hl : (lg_sl [.int (nI k), .int 4, v]).length ≤ 3 := by rcases hv with rfl | ⟨t, rfl⟩ <;> exact Nat.le_of_ble_eq_true rfl
  have e : ∃ lv, lv_args 0 [.int (nI k), .int 4, v] = lv ∧ lv[0]? = some (0, .int (nI k)) ∧ lv[1]? = some (1, .int 4) := ⟨_, rfl, by rcases hv with rfl | ⟨t, rfl⟩ <;> rfl, by rcases hv with rfl | ⟨t, rfl⟩ <;> rfl⟩
  obtain ⟨lv, e0, e1, e2⟩ := e
  refine CtE.of (by decide) hl e0 ?_
  refine x_iload_n (pc := 0) dJ3_checkIndex_8e157_0 0 e1 rfl ?_
  refine x_if_lt (pc := 1) (tgt := 9) dJ3_checkIndex_8e157_1 (by decide) (fun z => ?_) (fun _ => ?_)
  · rw [i_lt, i_nI (by omega), i_0] at z; omega
  refine x_iload_n (pc := 4) dJ3_checkIndex_8e157_4 0 e1 rfl ?_
  refine x_iload_n (pc := 5) dJ3_checkIndex_8e157_5 1 e2 rfl ?_
  refine x_icmp_lt (pc := 6) (tgt := 16) dJ3_checkIndex_8e157_6 (by decide) (fun _ => ?_) (fun z => ?_)
  · refine x_iload_n (pc := 16) dJ3_checkIndex_8e157_16 0 e1 rfl ?_
    exact e_ret (pc := 17) dJ3_checkIndex_8e157_17 rfl rfl ⟨_, rfl, rfl⟩
  · exact absurd (by rw [show (4 : Int32) = nI 4 from rfl, i_nlt (by omega) (by decide)]; exact hk) z
theorem c_ckS {k : Nat} (hk : k < 4) : CtE l M_J0_checkIndex_df160 q G [.int (nI k), .int 4] mem (fun o m => o = none ∧ m = mem) := by
  refine CtE.of (by decide) (Nat.le_of_ble_eq_true rfl) rfl ?_
  refine x_iload_n (pc := 0) dJ0_checkIndex_df160_0 0 rfl rfl ?_
  refine x_iload_n (pc := 1) dJ0_checkIndex_df160_1 1 rfl rfl ?_
  refine x_getSq (pc := 2) (fun _ _ h => h.2.2.2.1) dJ0_checkIndex_df160_2 tb_667 (fun v hv => ?_)
  refine x_callSE (pc := 5) (c_ckP hk v hv) (fun _ _ h => h) ok_J3_checkIndex_8e157 dJ0_checkIndex_df160_5 tb_669 ⟨⟨rfl, rfl⟩, ⟨by decide, by decide⟩, by decide, by decide⟩ rfl rfl (Nat.le_of_ble_eq_true rfl) ?_
  rintro o m ⟨r, rfl, rfl⟩
  refine x_pop (pc := 8) dJ0_checkIndex_df160_8 rfl ?_
  exact e_vret (pc := 9) dJ0_checkIndex_df160_9 rfl ⟨rfl, rfl⟩
theorem c_chB {k : Nat} (hk : k < 4) : CeI l M_J1_charAt_3b067 q G [.ref q.2.1, .int (nI k)] mem (fun r m => m = mem ∧ r = chQ k) := by
  refine CtE.of (by decide) (Nat.le_of_ble_eq_true rfl) rfl ?_
  refine x_iload_n (pc := 0) dJ1_charAt_3b067_0 1 rfl rfl ?_
  refine x_aload_n (pc := 1) dJ1_charAt_3b067_1 0 rfl rfl ?_
  refine x_blenQ (pc := 2) (fun _ _ h => h) dJ1_charAt_3b067_2 ?_
  refine x_callSE (pc := 3) (c_ckS hk) (fun _ _ h => h) ok_J0_checkIndex_df160 dJ1_charAt_3b067_3 tb_664 ⟨⟨rfl, rfl⟩, ⟨by decide, by decide⟩, by decide, by decide⟩ rfl rfl (Nat.le_of_ble_eq_true rfl) ?_
  rintro o m ⟨rfl, rfl⟩
  refine x_aload_n (pc := 6) dJ1_charAt_3b067_6 0 rfl rfl ?_
  refine x_iload_n (pc := 7) dJ1_charAt_3b067_7 1 rfl rfl ?_
  refine x_bldQ (pc := 8) hk (fun _ _ h => h) dJ1_charAt_3b067_8 ?_
  refine x_sipush (pc := 9) (v := 255) dJ1_charAt_3b067_9 (by decide) ?_
  refine x_iand (pc := 12) dJ1_charAt_3b067_12 ?_
  refine x_i2c (pc := 13) (v := chQ k) dJ1_charAt_3b067_13 (by rcases (by omega : k = 0 ∨ k = 1 ∨ k = 2 ∨ k = 3) with rfl | rfl | rfl | rfl <;> decide) ?_
  exact e_ret (pc := 14) dJ1_charAt_3b067_14 rfl (by rcases (by omega : k = 0 ∨ k = 1 ∨ k = 2 ∨ k = 3) with rfl | rfl | rfl | rfl <;> rfl) ⟨_, rfl, rfl, rfl⟩
theorem c_latin : CeI l M_J0_isLatin1_aae02 q G [.ref q.1] mem (fun r m => m = mem ∧ r = 1) := by
  refine CtE.of (by decide) (Nat.le_of_ble_eq_true rfl) rfl ?_
  refine x_getS (pc := 0) (fun _ _ h => h.2.2.1) dJ0_isLatin1_aae02_0 tb_659 ?_
  refine x_if_eq (pc := 3) (tgt := 17) dJ0_isLatin1_aae02_3 (by decide) (fun z => absurd z (by decide)) (fun _ => ?_)
  refine x_aload_n (pc := 6) dJ0_isLatin1_aae02_6 0 rfl rfl ?_
  refine x_getQ (pc := 7) (q := q) (fun _ _ h => (h.2.1.1 0 (by decide)).2.1) (fun _ _ _ _ _ _ => trivial) dJ0_isLatin1_aae02_7 tb_770 ?_
  refine x_if_ne (pc := 10) (tgt := 17) dJ0_isLatin1_aae02_10 (by decide) (fun z => absurd rfl z) (fun _ => ?_)
  refine x_iconst (pc := 13) (v := 1) dJ0_isLatin1_aae02_13 (by decide) ?_
  refine x_goto (pc := 14) (tgt := 18) dJ0_isLatin1_aae02_14 (by decide) ?_
  exact e_ret (pc := 18) dJ0_isLatin1_aae02_18 rfl rfl ⟨_, rfl, rfl, rfl⟩
theorem c_charAt {k : Nat} (hk : k < 4) : CeI l M_J0_charAt_5068e q G [.ref q.1, .int (nI k)] mem (fun r m => m = mem ∧ r = chQ k) := by
  refine CtE.of (by decide) (Nat.le_of_ble_eq_true rfl) rfl ?_
  refine x_aload_n (pc := 0) dJ0_charAt_5068e_0 0 rfl rfl ?_
  refine x_callQE (pc := 1) (As := []) c_latin (fun _ _ h => h) ok_J0_isLatin1_aae02 dJ0_charAt_5068e_1 tb_655 ⟨⟨rfl, rfl⟩, ⟨by decide, by decide⟩, by decide, by decide⟩ rfl rfl (Nat.le_of_ble_eq_true rfl) ?_
  rintro o m ⟨r, rfl, rfl, rfl⟩
  refine x_if_eq (pc := 4) (tgt := 16) dJ0_charAt_5068e_4 (by decide) (fun z => absurd z (by decide)) (fun _ => ?_)
  refine x_aload_n (pc := 7) dJ0_charAt_5068e_7 0 rfl rfl ?_
  refine x_getQ (pc := 8) (q := q) (fun _ _ h => (h.2.1.1 0 (by decide)).2.2.1) (fun _ _ _ _ _ _ => trivial) dJ0_charAt_5068e_8 tb_771 ?_
  refine x_iload_n (pc := 11) dJ0_charAt_5068e_11 1 rfl rfl ?_
  refine x_callSE (pc := 12) (c_chB hk) (fun _ _ h => h) ok_J1_charAt_3b067 dJ0_charAt_5068e_12 tb_661 ⟨⟨rfl, rfl⟩, ⟨by decide, by decide⟩, by decide, by decide⟩ rfl rfl (Nat.le_of_ble_eq_true rfl) ?_
  rintro o m ⟨r, rfl, rfl, rfl⟩
  exact e_ret (pc := 15) dJ0_charAt_5068e_15 rfl (by rcases (by omega : k = 0 ∨ k = 1 ∨ k = 2 ∨ k = 3) with rfl | rfl | rfl | rfl <;> rfl) ⟨_, rfl, rfl, rfl⟩
end XC4
