/-! calls and returns -/
theorem Fr_sub {G : Gx} {A : Nat → Prop} {ct : Nat → va_E} {H0 H : Heap} {locs : List Loc} (hD : va_D A (wd (gK G) (gA G) ct)) (hS : va_S A H0 H locs) (hA : ∀ q, H0.size ≤ q → A q) : ∀ q, Fr G H.size q → A q := by
  intro q h
  rcases h with ⟨i, hi, rfl⟩ | h
  · exact hD.2 i _ (wd_at hi)
  · exact hA q (Nat.le_trans hS.1 h)
theorem Pm_blind {G : Gx} {mem : Mem} {sz : Nat} {As : List Value} : FrameBlind (va_Pc As (Pm G mem sz)) := by
  intro a U g mk q
  obtain ⟨q0, q1, qP, qK, qD⟩ := q
  exact ⟨q0, q1, qP, Kx.moved (u := U) (U := U.calling g mk a) (Vm.Alike.refl U.vm) qK, qD⟩
theorem gI_TB {Mc : MTy} (w5 : Cond.code Mc.1 Mc.2.1 Mc.2.2.1 Mc.2.2.2.1 ∈ TB) : GoodIn TB (wsM Mc) := by
  intro w h
  rcases List.mem_cons.mp h with rfl | h
  · exact ⟨w5, TB_good w5⟩
  · exact ⟨h, TB_good h⟩
/-- what the tables say of a method that is called on an object -/
def OkV (Mc : MTy) (C0 : String) (n : Nat) : Prop :=
  Cond.instanceMethod Mc.1 ∈ TB ∧ Cond.selects C0 Mc.1 Mc.1 ∈ TB ∧ Cond.initialized C0 ∈ TB ∧ Cond.code Mc.1 Mc.2.1 Mc.2.2.1 Mc.2.2.2.1 ∈ TB ∧ Mc.1.cls = C0 ∧ Mc.1.cls ≠ "java/lang/invoke/MethodHandle" ∧ Mc.1.cls ≠ "java/lang/invoke/VarHandle" ∧ (parseMethodDescriptor Mc.1.desc).map (fun d => d.parameters.length) = some n
def OkS (Mc : MTy) (n : Nat) : Prop :=
  Cond.static Mc.1 ∈ TB ∧ Cond.initialized Mc.1.cls ∈ TB ∧ Cond.code Mc.1 Mc.2.1 Mc.2.2.1 Mc.2.2.2.1 ∈ TB ∧ Mc.1.cls ≠ "java/lang/invoke/MethodHandle" ∧ Mc.1.cls ≠ "java/lang/invoke/VarHandle" ∧ (parseMethodDescriptor Mc.1.desc).map (fun d => d.parameters.length) = some n
def OkI (Mc : MTy) (n : Nat) : Prop :=
  Cond.instanceMethod Mc.1 ∈ TB ∧ Cond.initialized Mc.1.cls ∈ TB ∧ Cond.code Mc.1 Mc.2.1 Mc.2.2.1 none ∈ TB ∧ Mc.2.2.2.1 = none ∧ Mc.1.name = "<init>" ∧ Mc.1.cls ≠ "java/lang/invoke/MethodHandle" ∧ Mc.1.cls ≠ "java/lang/invoke/VarHandle" ∧ (parseMethodDescriptor Mc.1.desc).map (fun d => d.parameters.length) = some n
/-- the callee's room fits the caller's -/
def RmOk (Mc M : MTy) (mc ms cells slots : Nat) : Prop :=
  (Mc.2.2.2.2.cells = mc ∧ Mc.2.2.2.2.slots = ms) ∧ (Mc.2.2.2.2.frames + 1 ≤ M.2.2.2.2.frames ∧ 8 + (Mc.2.2.1 + 11) + Mc.2.2.2.2.locals ≤ M.2.2.2.2.locals) ∧ cells + mc ≤ M.2.2.2.2.cells ∧ slots + ms ≤ M.2.2.2.2.slots
section XC
variable {l : Launch} {M : MTy} {A : State → Nat → Prop} {Z : List Frame → Array Value → State → State → Prop} {E : Array Value → State → Prop} {G : Gx} {cells slots : Nat} {mem : Mem} {pc : Nat} {lv : Lv} {st : List Value}
theorem x_run {p : Program} {e : Env} {R : Room} {s : State} {m : MethodId} {args : Array Value} {below : List Frame} {meth : Method} {c : Code} {H : Heap} {locs : List Loc} {Q : State → Prop} {ls : Array Slot} {rest st0 : List Value} {a : Array Value} {A0 : Nat → Prop} {H0 : Heap} {mc ms : Nat} {P : Option Value → Gx → Mem → Prop} {ct : Nat → va_E}
    (hr : va_Run p l e R s m args below meth c H locs cells slots mc ms (F0 m pc ls st0) rest (Qm G P H.size a) (Fr G H.size)) (hD : va_D A0 (wd (gK G) (gA G) ct)) (hS : va_S A0 H0 H locs) (hA : ∀ q, H0.size ≤ q → A0 q)
    (kk : ∀ (o : Option Value) (G' : Gx) (mem' : Mem) (H1 : Heap) (locs1 : List Loc), P o G' mem' → gD G' = gD G → gC G' = gC G → va_P (gD G) vwCl (wd (gK G') (gA G') (cellOf G' mem')) H1 → va_D A0 (wd (gK G') (gA G') (cellOf G' mem')) → va_S A0 H0 H1 locs1 → W p l e R s m args below meth c H1 locs1 (cells + mc) (slots + ms) Q (F0 m (pc + 3) ls (o.toList ++ rest))) : W p l e R s m args below meth c H locs cells slots Q (F0 m pc ls st0) := by
  have hF := Fr_sub hD hS hA
  intro T hT X
  obtain ⟨v, st₀, t, T', L, h0, X', hL, e1, e2, ⟨⟨o, G', mem', hv, hp, hd1, hd2, hP1, hD1⟩, hz, hk⟩, st⟩ := hr T hT X
  cases hv
  rw [h0] at hz hk
  obtain ⟨t2, a1, b1⟩ := kk v G' mem' T'.heap (locs ++ L) hp hd1 hd2 (by rw [e1]; exact hP1) (hD1.weaken (fun _ q _ h => hF q.1 h))
    ⟨Nat.le_trans hS.1 (by rw [e1]; exact hz), fun q h1 h2 => by rw [e1, hk q (Nat.lt_of_lt_of_le h1 hS.1) (fun z => h2 (hF q z))]; exact hS.2.1 q h1 h2, fun q hq => by
      rcases List.mem_append.mp hq with h | h
      · exact hS.2.2 q h
      · exact hF _ (hL q h)⟩ T' rfl X'
  exact ⟨t2, st t2 a1, b1⟩
theorem x_callV {Mc : MTy} {mc ms index ci n N : Nat} {As rest fs : List Value} {C0 : String} {T : u_T} {P : Option Value → Gx → Mem → Prop} (j : Nat) (hct : Ctg l Mc G mc ms (.ref (gA G j) :: As) mem P) (hok : OkV Mc C0 n) (hdg : decode M.2.1 pc = .ok (.invokevirtual index, 3)) (w1 : Cond.methodLink M.1.cls index Mc.1 ∈ TB) (hrm : RmOk Mc M mc ms cells slots)
    (hj : j < gK G) (hc : cellR G j (mem j) = .inr (ci, fs)) (hcl : vwCl[ci]? = some (C0, T, N)) (hn : As.length = n) (hst : st = As.reverse ++ .ref (gA G j) :: rest) (hcat : (rest.map fun v => v.category).sum ≤ 8)
    (kk : ∀ (o : Option Value) (G' : Gx) (mem' : Mem), P o G' mem' → gD G' = gD G → gC G' = gC G → Xg l M A Z E G' (cells + mc) (slots + ms) mem' (pc + 3) lv (o.toList ++ rest)) : Xg l M A Z E G cells slots mem pc lv st := by
  intro p e s m args below meth c H locs ls C hP hD hS hL
  obtain ⟨w2, w3, w4, w5, hy⟩ := hok
  have hT : GoodIn TB (wsV M.1.cls index C0 Mc.1 (wsM Mc)) := by
    intro w h
    rcases List.mem_append.mp h with h | h
    · have : w = Cond.methodLink M.1.cls index Mc.1 ∨ w = Cond.instanceMethod Mc.1 ∨ w = Cond.selects C0 Mc.1 Mc.1 ∨ w = Cond.initialized C0 := by simpa using h
      rcases this with rfl | rfl | rfl | rfl
      · exact ⟨w1, TB_good w1⟩
      · exact ⟨w2, TB_good w2⟩
      · exact ⟨w3, TB_good w3⟩
      · exact ⟨w4, TB_good w4⟩
    · exact gI_TB w5 w h
  have hrun := va_runV (p := p) (e := e) (R := M.2.2.2.2) (below := below) (meth := meth) (H := H) (locs := locs) (cells := cells) (slots := slots) (g := F0 m pc ls st) (b := gA G j) (As := As) (rest := rest) (S := ⟨C.1, C.2.1, C.2.2.1, C.2.2.2.1, C.2.2.2.2.1⟩) (hM := hct H.size) (cw := cwV n C.2.2.2.2.1 hT rfl hrm.1.1 hrm.1.2 hy hrm.2.1)
    ⟨Pm_blind, va_recv C.2.2.2.2.2.2.2.2.1.1 hP (ci := ci) (q0 := j) hcl (by rw [wd_at hj]; exact congrArg (fun z => some (gA G j, z)) hc), fun U hU hW => ⟨rfl, by rw [hU], by rw [hU]; exact hP, Kx.moved hW.alike C.2.2.2.2.2.2.2.2.1, hD.weaken (fun _ _ _ _ => trivial)⟩⟩ rfl hn hL.1 hst (lv_room hcat) hdg hrm.2.2
  exact x_run hrun hD hS C.2.2.2.2.2.2.2.2.2.1 (fun o G' mem' H1 locs1 hp hd1 hd2 hP1 hD1 hS1 => kk o G' mem' hp hd1 hd2 p e s m args below meth c H1 locs1 ls (by unfold Cx Kx at C ⊢; rw [hd1, hd2]; exact C) (by rw [hd1]; exact hP1) hD1 hS1 hL)
theorem x_callS {Mc : MTy} {mc ms index n : Nat} {As rest : List Value} {P : Option Value → Gx → Mem → Prop} (hct : Ctg l Mc G mc ms As mem P) (hok : OkS Mc n) (hdg : decode M.2.1 pc = .ok (.invokestatic index, 3)) (w1 : Cond.methodLink M.1.cls index Mc.1 ∈ TB) (hrm : RmOk Mc M mc ms cells slots)
    (hn : As.length = n) (hst : st = As.reverse ++ rest) (hcat : (rest.map fun v => v.category).sum ≤ 8)
    (kk : ∀ (o : Option Value) (G' : Gx) (mem' : Mem), P o G' mem' → gD G' = gD G → gC G' = gC G → Xg l M A Z E G' (cells + mc) (slots + ms) mem' (pc + 3) lv (o.toList ++ rest)) : Xg l M A Z E G cells slots mem pc lv st := by
  intro p e s m args below meth c H locs ls C hP hD hS hL
  obtain ⟨w2, w4, w5, hy⟩ := hok
  have hrun := va_runS (p := p) (e := e) (R := M.2.2.2.2) (below := below) (meth := meth) (H := H) (locs := locs) (cells := cells) (slots := slots) (g := F0 m pc ls st) (As := As) (rest := rest) (S := ⟨C.1, C.2.1, C.2.2.1, C.2.2.2.1, C.2.2.2.2.1⟩) (hM := hct H.size) (cw := ⟨callB_of n C.2.2.2.2.1 (gI_TB w5) rfl hrm.1.1 hrm.1.2 (C.2.2.2.2.1 _ w4) (C.2.2.2.2.1 _ w1) hy hrm.2.1, C.2.2.2.2.1 _ w2⟩)
    ⟨Pm_blind, fun U hU hW => ⟨rfl, by rw [hU], by rw [hU]; exact hP, Kx.moved hW.alike C.2.2.2.2.2.2.2.2.1, hD.weaken (fun _ _ _ _ => trivial)⟩⟩ rfl hn hL.1 hst (lv_room hcat) hdg hrm.2.2
  exact x_run hrun hD hS C.2.2.2.2.2.2.2.2.2.1 (fun o G' mem' H1 locs1 hp hd1 hd2 hP1 hD1 hS1 => kk o G' mem' hp hd1 hd2 p e s m args below meth c H1 locs1 ls (by unfold Cx Kx at C ⊢; rw [hd1, hd2]; exact C) (by rw [hd1]; exact hP1) hD1 hS1 hL)
theorem x_callI {Mc : MTy} {mc ms index n : Nat} {As rest : List Value} {P : Option Value → Gx → Mem → Prop} (j : Nat) (hct : Ctg l Mc G mc ms (.ref (gA G j) :: As) mem P) (hok : OkI Mc n) (hdg : decode M.2.1 pc = .ok (.invokespecial index, 3)) (w1 : Cond.methodLink M.1.cls index Mc.1 ∈ TB) (hrm : RmOk Mc M mc ms cells slots)
    (hn : As.length = n) (hst : st = As.reverse ++ .ref (gA G j) :: rest) (hcat : (rest.map fun v => v.category).sum ≤ 8)
    (kk : ∀ (o : Option Value) (G' : Gx) (mem' : Mem), P o G' mem' → gD G' = gD G → gC G' = gC G → Xg l M A Z E G' (cells + mc) (slots + ms) mem' (pc + 3) lv (o.toList ++ rest)) : Xg l M A Z E G cells slots mem pc lv st := by
  intro p e s m args below meth c H locs ls C hP hD hS hL
  obtain ⟨w2, w4, w5, hret, hnm, hy⟩ := hok
  have w5' : Cond.code Mc.1 Mc.2.1 Mc.2.2.1 Mc.2.2.2.1 ∈ TB := by rw [hret]; exact w5
  have hrun := va_runI (p := p) (e := e) (R := M.2.2.2.2) (below := below) (meth := meth) (H := H) (locs := locs) (cells := cells) (slots := slots) (g := F0 m pc ls st) (b := gA G j) (As := As) (rest := rest) (S := ⟨C.1, C.2.1, C.2.2.1, C.2.2.2.1, C.2.2.2.2.1⟩) (hM := hct H.size) (cw := cwI n C.2.2.2.2.1 (gI_TB w5') (by rw [wsM, hret]) hrm.1.1 hrm.1.2 (C.2.2.2.2.1 _ w4) (C.2.2.2.2.1 _ w1) (C.2.2.2.2.1 _ w2) hnm hy hrm.2.1)
    ⟨Pm_blind, fun U hU hW => ⟨rfl, by rw [hU], by rw [hU]; exact hP, Kx.moved hW.alike C.2.2.2.2.2.2.2.2.1, hD.weaken (fun _ _ _ _ => trivial)⟩⟩ rfl hn hL.1 hst (lv_room hcat) hdg hrm.2.2
  exact x_run hrun hD hS C.2.2.2.2.2.2.2.2.2.1 (fun o G' mem' H1 locs1 hp hd1 hd2 hP1 hD1 hS1 => kk o G' mem' hp hd1 hd2 p e s m args below meth c H1 locs1 ls (by unfold Cx Kx at C ⊢; rw [hd1, hd2]; exact C) (by rw [hd1]; exact hP1) hD1 hS1 hL)
/-- calls of methods that make no cells -/
theorem x_callVI {Mc : MTy} {index ci n N : Nat} {As rest fs : List Value} {C0 : String} {T : u_T} {P : Int32 → Mem → Prop} (j : Nat) (hct : CtI l Mc G (.ref (gA G j) :: As) mem P) (hok : OkV Mc C0 n) (hdg : decode M.2.1 pc = .ok (.invokevirtual index, 3)) (w1 : Cond.methodLink M.1.cls index Mc.1 ∈ TB) (hrm : RmOk Mc M 0 0 cells slots) (hj : j < gK G) (hc : cellR G j (mem j) = .inr (ci, fs)) (hcl : vwCl[ci]? = some (C0, T, N)) (hn : As.length = n) (hst : st = As.reverse ++ .ref (gA G j) :: rest) (hcat : (rest.map fun v => v.category).sum ≤ 8)
    (kk : ∀ (r : Int32) (mem' : Mem), P r mem' → Xg l M A Z E G cells slots mem' (pc + 3) lv (.int r :: rest)) : Xg l M A Z E G cells slots mem pc lv st := by
  refine x_callV j hct hok hdg w1 hrm hj hc hcl hn hst hcat (fun o G' mem' h _ _ => ?_)
  obtain ⟨rfl, r, rfl, h⟩ := h
  exact kk r mem' h
theorem x_callVL {Mc : MTy} {index ci n N : Nat} {As rest fs : List Value} {C0 : String} {T : u_T} {P : Int64 → Mem → Prop} (j : Nat) (hct : CtL l Mc G (.ref (gA G j) :: As) mem P) (hok : OkV Mc C0 n) (hdg : decode M.2.1 pc = .ok (.invokevirtual index, 3)) (w1 : Cond.methodLink M.1.cls index Mc.1 ∈ TB) (hrm : RmOk Mc M 0 0 cells slots) (hj : j < gK G) (hc : cellR G j (mem j) = .inr (ci, fs)) (hcl : vwCl[ci]? = some (C0, T, N)) (hn : As.length = n) (hst : st = As.reverse ++ .ref (gA G j) :: rest) (hcat : (rest.map fun v => v.category).sum ≤ 8)
    (kk : ∀ (r : Int64) (mem' : Mem), P r mem' → Xg l M A Z E G cells slots mem' (pc + 3) lv (.long r :: rest)) : Xg l M A Z E G cells slots mem pc lv st := by
  refine x_callV j hct hok hdg w1 hrm hj hc hcl hn hst hcat (fun o G' mem' h _ _ => ?_)
  obtain ⟨rfl, r, rfl, h⟩ := h
  exact kk r mem' h
theorem x_callVV {Mc : MTy} {index ci n N : Nat} {As rest fs : List Value} {C0 : String} {T : u_T} {P : Mem → Prop} (j : Nat) (hct : CtV l Mc G (.ref (gA G j) :: As) mem P) (hok : OkV Mc C0 n) (hdg : decode M.2.1 pc = .ok (.invokevirtual index, 3)) (w1 : Cond.methodLink M.1.cls index Mc.1 ∈ TB) (hrm : RmOk Mc M 0 0 cells slots) (hj : j < gK G) (hc : cellR G j (mem j) = .inr (ci, fs)) (hcl : vwCl[ci]? = some (C0, T, N)) (hn : As.length = n) (hst : st = As.reverse ++ .ref (gA G j) :: rest) (hcat : (rest.map fun v => v.category).sum ≤ 8)
    (kk : ∀ (mem' : Mem), P mem' → Xg l M A Z E G cells slots mem' (pc + 3) lv rest) : Xg l M A Z E G cells slots mem pc lv st := by
  refine x_callV j hct hok hdg w1 hrm hj hc hcl hn hst hcat (fun o G' mem' h _ _ => ?_)
  obtain ⟨rfl, rfl, h⟩ := h
  exact kk mem' h
theorem x_callSI {Mc : MTy} {index n : Nat} {As rest : List Value} {P : Int32 → Mem → Prop} (hct : CtI l Mc G As mem P) (hok : OkS Mc n) (hdg : decode M.2.1 pc = .ok (.invokestatic index, 3)) (w1 : Cond.methodLink M.1.cls index Mc.1 ∈ TB) (hrm : RmOk Mc M 0 0 cells slots) (hn : As.length = n) (hst : st = As.reverse ++ rest) (hcat : (rest.map fun v => v.category).sum ≤ 8)
    (kk : ∀ (r : Int32) (mem' : Mem), P r mem' → Xg l M A Z E G cells slots mem' (pc + 3) lv (.int r :: rest)) : Xg l M A Z E G cells slots mem pc lv st := by
  refine x_callS hct hok hdg w1 hrm hn hst hcat (fun o G' mem' h _ _ => ?_)
  obtain ⟨rfl, r, rfl, h⟩ := h
  exact kk r mem' h
theorem x_callSL {Mc : MTy} {index n : Nat} {As rest : List Value} {P : Int64 → Mem → Prop} (hct : CtL l Mc G As mem P) (hok : OkS Mc n) (hdg : decode M.2.1 pc = .ok (.invokestatic index, 3)) (w1 : Cond.methodLink M.1.cls index Mc.1 ∈ TB) (hrm : RmOk Mc M 0 0 cells slots) (hn : As.length = n) (hst : st = As.reverse ++ rest) (hcat : (rest.map fun v => v.category).sum ≤ 8)
    (kk : ∀ (r : Int64) (mem' : Mem), P r mem' → Xg l M A Z E G cells slots mem' (pc + 3) lv (.long r :: rest)) : Xg l M A Z E G cells slots mem pc lv st := by
  refine x_callS hct hok hdg w1 hrm hn hst hcat (fun o G' mem' h _ _ => ?_)
  obtain ⟨rfl, r, rfl, h⟩ := h
  exact kk r mem' h
theorem x_callSV {Mc : MTy} {index n : Nat} {As rest : List Value} {P : Mem → Prop} (hct : CtV l Mc G As mem P) (hok : OkS Mc n) (hdg : decode M.2.1 pc = .ok (.invokestatic index, 3)) (w1 : Cond.methodLink M.1.cls index Mc.1 ∈ TB) (hrm : RmOk Mc M 0 0 cells slots) (hn : As.length = n) (hst : st = As.reverse ++ rest) (hcat : (rest.map fun v => v.category).sum ≤ 8)
    (kk : ∀ (mem' : Mem), P mem' → Xg l M A Z E G cells slots mem' (pc + 3) lv rest) : Xg l M A Z E G cells slots mem pc lv st := by
  refine x_callS hct hok hdg w1 hrm hn hst hcat (fun o G' mem' h _ _ => ?_)
  obtain ⟨rfl, rfl, h⟩ := h
  exact kk mem' h
end XC
section XE
variable {l : Launch} {M : MTy} {G0 G : Gx} {mc ms : Nat} {mem : Mem} {pc : Nat} {lv : Lv}
theorem Qm_of {P : Option Value → Gx → Mem → Prop} {o : Option Value} {s t : State} {args : Array Value} {H : Heap} {locs : List Loc} (h : P o G mem) (hd : gD G = gD G0) (hc : gC G = gC G0) (hP : va_P (gD G) vwCl (wd (gK G) (gA G) (cellOf G mem)) H) (hD : va_D (Fr G0 s.heap.size) (wd (gK G) (gA G) (cellOf G mem))) (hS : va_S (Fr G0 s.heap.size) s.heap H locs) (ht : t.heap = H) : Qm G0 P s.heap.size args s (.returned o) t :=
  ⟨⟨o, G, mem, rfl, h, hd, hc, by rw [ht, ← hd]; exact hP, hD⟩, hS.F ht⟩
theorem x_iret {P : Option Value → Gx → Mem → Prop} {v : Int32} (hdg : decode M.2.1 pc = .ok (.ireturn, 1)) (hr : M.2.2.2.1 = some .int) (hd : gD G = gD G0) (hc : gC G = gC G0) (h : P (some (.int v)) G mem) : Xm l M G0 mc ms P G mc ms mem pc lv [.int v] := by
  intro p e s m args below meth c H locs ls C hP hD hS hL
  exact W.iret C.1 C.2.1 (C.2.2.2.2.2.1.trans hr) (fun t ht _ => Qm_of h hd hc hP hD hS ht) hS.2.2 hdg C.2.2.2.2.2.2.1
theorem x_zret {P : Option Value → Gx → Mem → Prop} {v : Int32} (hdg : decode M.2.1 pc = .ok (.ireturn, 1)) (hr : M.2.2.2.1 = some .boolean) (hd : gD G = gD G0) (hc : gC G = gC G0) (hv : v = 0 ∨ v = 1) (h : P (some (.int v)) G mem) : Xm l M G0 mc ms P G mc ms mem pc lv [.int v] := by
  intro p e s m args below meth c H locs ls C hP hD hS hL
  exact W.zret C.1 C.2.1 (C.2.2.2.2.2.1.trans hr) (by rcases hv with rfl | rfl <;> rfl) (fun t ht _ => Qm_of h hd hc hP hD hS ht) hS.2.2 hdg C.2.2.2.2.2.2.1
theorem x_lret {P : Option Value → Gx → Mem → Prop} {v : Int64} (hdg : decode M.2.1 pc = .ok (.lreturn, 1)) (hr : M.2.2.2.1 = some .long) (hd : gD G = gD G0) (hc : gC G = gC G0) (h : P (some (.long v)) G mem) : Xm l M G0 mc ms P G mc ms mem pc lv [.long v] := by
  intro p e s m args below meth c H locs ls C hP hD hS hL
  exact W.lret C.1 C.2.1 (C.2.2.2.2.2.1.trans hr) (fun t ht _ => Qm_of h hd hc hP hD hS ht) hS.2.2 hdg C.2.2.2.2.2.2.1
theorem x_vret {P : Option Value → Gx → Mem → Prop} (hdg : decode M.2.1 pc = .ok (.return_, 1)) (hr : M.2.2.2.1 = none) (hd : gD G = gD G0) (hc : gC G = gC G0) (h : P none G mem) : Xm l M G0 mc ms P G mc ms mem pc lv [] := by
  intro p e s m args below meth c H locs ls C hP hD hS hL
  exact W.vret C.1 C.2.1 (C.2.2.2.2.2.1.trans hr) (fun t ht _ => Qm_of h hd hc hP hD hS ht) hS.2.2 hdg C.2.2.2.2.2.2.1
/-- the ends of methods that make no cells -/
theorem x_endI {P : Int32 → Mem → Prop} {v : Int32} (hdg : decode M.2.1 pc = .ok (.ireturn, 1)) (hr : M.2.2.2.1 = some .int) (h : P v mem) : XI l M G P mem pc lv [.int v] := x_iret hdg hr rfl rfl ⟨rfl, v, rfl, h⟩
theorem x_endZ {P : Int32 → Mem → Prop} {v : Int32} (hdg : decode M.2.1 pc = .ok (.ireturn, 1)) (hr : M.2.2.2.1 = some .boolean) (hv : v = 0 ∨ v = 1) (h : P v mem) : XI l M G P mem pc lv [.int v] := x_zret hdg hr rfl rfl hv ⟨rfl, v, rfl, h⟩
theorem x_endL {P : Int64 → Mem → Prop} {v : Int64} (hdg : decode M.2.1 pc = .ok (.lreturn, 1)) (hr : M.2.2.2.1 = some .long) (h : P v mem) : XL l M G P mem pc lv [.long v] := x_lret hdg hr rfl rfl ⟨rfl, v, rfl, h⟩
theorem x_endV {P : Mem → Prop} (hdg : decode M.2.1 pc = .ok (.return_, 1)) (hr : M.2.2.2.1 = none) (h : P mem) : XV l M G P mem pc lv [] := x_vret hdg hr rfl rfl ⟨rfl, rfl, h⟩
end XE
theorem CtI.mono {l : Launch} {M : MTy} {G : Gx} {As : List Value} {mem : Mem} {P P' : Int32 → Mem → Prop} (h : CtI l M G As mem P) (hp : ∀ r m', P r m' → P' r m') : CtI l M G As mem P' := Ctg.mono h (fun _ _ _ ⟨a, r, b, c⟩ => ⟨a, r, b, hp _ _ c⟩)
theorem CtL.mono {l : Launch} {M : MTy} {G : Gx} {As : List Value} {mem : Mem} {P P' : Int64 → Mem → Prop} (h : CtL l M G As mem P) (hp : ∀ r m', P r m' → P' r m') : CtL l M G As mem P' := Ctg.mono h (fun _ _ _ ⟨a, r, b, c⟩ => ⟨a, r, b, hp _ _ c⟩)
theorem CtV.mono {l : Launch} {M : MTy} {G : Gx} {As : List Value} {mem : Mem} {P P' : Mem → Prop} (h : CtV l M G As mem P) (hp : ∀ m', P m' → P' m') : CtV l M G As mem P' := Ctg.mono h (fun _ _ _ ⟨a, b, c⟩ => ⟨a, b, hp _ c⟩)
