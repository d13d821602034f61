/-! new cells: the world grows by cells of a written content; rules for what makes them -/
/-- one cell more, at the address q, with the content e -/
def gPut (G : Gx) (q : Nat) (e : va_E) : Gx := (gD G, gC G, gK G + 1, (fun i => if i = gK G then q else gA G i), fun i => if i = gK G then some e else gO G i)
/-- another written content of the cell j -/
def gSet (G : Gx) (j : Nat) (e : va_E) : Gx := (gD G, gC G, gK G, gA G, fun i => if i = j then some e else gO G i)
/-- a grid of 12 rows of 12 ints -/
def gGrid (G : Gx) (q : Nat) : Gx := (gD G, gC G, gK G + 13, (fun i => if i < gK G then gA G i else q + (i - gK G)), fun i => if i < gK G then gO G i else if i = gK G then some (rR (gC G) 12 (fun k => if k < 12 then some (q + 1 + k) else none)) else some (rI (gC G) 12 (fun _ => 0)))
/-- the cells of the shape speak of addresses that are there -/
def Cl (G : Gx) : Prop := ∀ j, j < gK G → gO G j = none → ∀ ad : Nat → Nat, (∀ i, i < gK G → ad i = gA G i) → ∀ r, cellAt (gC G) ad j r = cellAt (gC G) (gA G) j r
section GR
variable {G G' : Gx} {mem mem' : Mem} {q j : Nat} {e : va_E}
theorem cR_some {j : Nat} {r : Nat → Int32} (h : gO G j = some e) : cellR G j r = e := by unfold cellR; rw [h]
theorem cR_none {j : Nat} {r : Nat → Int32} (h : gO G j = none) : cellR G j r = cellAt (gC G) (gA G) j r := by unfold cellR; rw [h]
theorem cR_put (hCl : Cl G) {i : Nat} (hi : i < gK G) (r : Nat → Int32) : cellR (gPut G q e) i r = cellR G i r := by
  have h0 : gO (gPut G q e) i = gO G i := if_neg (by omega)
  cases h : gO G i with
  | some x => rw [cR_some h, cR_some (h0.trans h)]
  | none =>
    rw [cR_none h, cR_none (h0.trans h)]
    exact hCl i hi h _ (fun k hk => if_neg (by omega)) r
theorem cR_put_self (r : Nat → Int32) : cellR (gPut G q e) (gK G) r = e := cR_some (if_pos rfl)
theorem wd_put (hCl : Cl G) : wd (gK (gPut G q e)) (gA (gPut G q e)) (cellOf (gPut G q e) mem) = wd (gK G) (gA G) (cellOf G mem) ++ [(q, e)] := by
  show wd (gK G + 1) _ _ = _
  rw [wd_push]
  have h1 : wd (gK G) (gA (gPut G q e)) (cellOf (gPut G q e) mem) = wd (gK G) (gA G) (cellOf G mem) := wd_congr (fun i hi => cR_put hCl hi _) (fun i hi => if_neg (by omega))
  have h2 : gA (gPut G q e) (gK G) = q := if_pos rfl
  have h3 : cellOf (gPut G q e) mem (gK G) = e := cR_put_self _
  rw [h1, h2, h3]
theorem Cl.put (hCl : Cl G) : Cl (gPut G q e) := by
  intro j hj hn ad had r
  have hj : j < gK G + 1 := hj
  by_cases c : j = gK G
  · have : gO (gPut G q e) j = some e := if_pos c
    rw [this] at hn; cases hn
  · have h0 : gO (gPut G q e) j = gO G j := if_neg c
    have hn' : gO G j = none := h0.symm.trans hn
    have e1 := hCl j (by omega) hn' ad (fun i hi => by rw [had i (by show i < gK G + 1; omega)]; exact if_neg (by omega)) r
    have e2 := hCl j (by omega) hn' (gA (gPut G q e)) (fun i hi => if_neg (by omega)) r
    exact e1.trans e2.symm
theorem Cl.set (hCl : Cl G) : Cl (gSet G j e) := by
  intro i hi hn ad had r
  by_cases c : i = j
  · have : gO (gSet G j e) i = some e := if_pos c
    rw [this] at hn; cases hn
  · have h0 : gO (gSet G j e) i = gO G i := if_neg c
    exact hCl i hi (h0.symm.trans hn) ad had r
theorem Cl.grid (hCl : Cl G) : Cl (gGrid G q) := by
  intro j hj hn ad had r
  by_cases c : j < gK G
  · have h0 : gO (gGrid G q) j = gO G j := if_pos c
    have hn' : gO G j = none := h0.symm.trans hn
    have e1 := hCl j c hn' ad (fun i hi => by rw [had i (by show i < gK G + 13; omega)]; exact if_pos hi) r
    have e2 := hCl j c hn' (gA (gGrid G q)) (fun i hi => if_pos hi) r
    exact e1.trans e2.symm
  · by_cases c2 : j = gK G
    · have : gO (gGrid G q) j = some (rR (gC G) 12 (fun k => if k < 12 then some (q + 1 + k) else none)) := (if_neg c).trans (if_pos c2)
      rw [this] at hn; cases hn
    · have : gO (gGrid G q) j = some (rI (gC G) 12 (fun _ => 0)) := (if_neg c).trans (if_neg c2)
      rw [this] at hn; cases hn
theorem cR_grid (hCl : Cl G) {i : Nat} (hi : i < gK G) (r : Nat → Int32) : cellR (gGrid G q) i r = cellR G i r := by
  have h0 : gO (gGrid G q) i = gO G i := if_pos hi
  cases h : gO G i with
  | some x => rw [cR_some h, cR_some (h0.trans h)]
  | none =>
    rw [cR_none h, cR_none (h0.trans h)]
    exact hCl i hi h _ (fun k hk => if_pos hk) r
theorem wd_gset (hj : j < gK G) : (wd (gK G) (gA G) (cellOf G mem)).set j (gA G j, e) = wd (gK (gSet G j e)) (gA (gSet G j e)) (cellOf (gSet G j e) mem) := by
  refine wd_set hj (cR_some (if_pos rfl)) (fun i hi => ?_)
  have h0 : gO (gSet G j e) i = gO G i := if_neg hi
  show cellR (gSet G j e) i (mem i) = cellR G i (mem i)
  cases h : gO G i with
  | some x => rw [cR_some h, cR_some (h0.trans h)]
  | none => rw [cR_none h, cR_none (h0.trans h)]; rfl
end GR
section XG
variable {l : Launch} {M : MTy} {A : State → Nat → Prop} {Z : List Frame → Array Value → State → State → Prop} {E : Array Value → State → Prop} {G : Gx} {cells slots : Nat} {mem : Mem} {pc : Nat} {lv : Lv} {st : List Value}
/-- the same world, written otherwise -/
theorem x_view {G' : Gx} {mem' : Mem} (hD : gD G' = gD G) (hC : gC G' = gC G) (hK : gK G' = gK G) (h : ∀ j, j < gK G → gA G' j = gA G j ∧ cellR G' j (mem' j) = cellR G j (mem j)) (kk : Xg l M A Z E G' cells slots mem' pc lv st) : Xg l M A Z E G cells slots mem pc lv st := by
  intro p e s m args below meth c H locs ls C hP hDD hS hL
  have hw : wd (gK G') (gA G') (cellOf G' mem') = wd (gK G) (gA G) (cellOf G mem) := by
    rw [hK]
    exact wd_congr (fun i hi => (h i hi).2) (fun i hi => (h i hi).1)
  exact kk p e s m args below meth c H locs ls (by unfold Cx Kx at C ⊢; rw [hD, hC]; exact C) (by rw [hD, hw]; exact hP) (by rw [hw]; exact hDD) hS hL
theorem x_widen {c2 s2 : Nat} (h1 : cells ≤ c2) (h2 : slots ≤ s2) (kk : Xg l M A Z E G c2 s2 mem pc lv st) : Xg l M A Z E G cells slots mem pc lv st := by
  intro p e s m args below meth c H locs ls C hP hD hS hL
  exact W.widen h1 h2 (kk p e s m args below meth c H locs ls C hP hD hS hL)
theorem x_objI {index a : Nat} (hdg : decode M.2.1 pc = .ok (.invokespecial index, 3)) (w1 : Cond.methodLink M.1.cls index Lib.objectInit ∈ TB) (w2 : Cond.instanceMethod Lib.objectInit ∈ TB) (w3 : Cond.code Lib.objectInit ⟨#[0xb1]⟩ 1 none ∈ TB) (hf : 1 ≤ M.2.2.2.2.frames) (hl : 20 ≤ M.2.2.2.2.locals) (hcat : (st.map fun v => v.category).sum ≤ 8) (kk : Xg l M A Z E G cells slots mem (pc + 3) lv st) : Xg l M A Z E G cells slots mem pc lv (.ref a :: st) := by
  intro p e s m args below meth c H locs ls C hP hD hS hL
  refine W.objInit C.1 C.2.1 C.2.2.2.1 (C.2.2.2.2.1 _ w1) (C.2.2.2.2.1 _ w2) (C.2.2.2.2.1 _ w3) rfl (by rw [C.2.2.1]; exact hL.1) rfl hdg hf ?_ (kk p e s m args below meth c H locs ls C hP hD hS hL)
  exact Nat.le_trans (Nat.add_le_add_right (lv_room (m := m) (pc := pc) (ls := ls) (rest := .ref a :: st) hcat) 12) hl
theorem x_new {index ci N : Nat} {C0 : String} {T : u_T} {fs : List Value} (hCl : Cl G) (hdg : decode M.2.1 pc = .ok (.new index, 3)) (hcl : vwCl[ci]? = some (C0, T, N)) (hin : ∀ w ∈ u_ws C0 T N, w ∈ TB) (ty : Nat → FieldType) (hty : ∀ k, k < N → parseFieldDescriptor (T k).2.2.1 = some (ty k)) (w1 : Cond.classLink M.1.cls index C0 ∈ TB) (w2 : Cond.instantiable C0 N ∈ TB) (w3 : Cond.initialized C0 ∈ TB) (hfs : ∀ j, j < N → defaultValue (ty j) = vp_V fs j) (hc : cells + 1 ≤ M.2.2.2.2.cells) (hs : slots + N ≤ M.2.2.2.2.slots)
    (kk : ∀ q, Xg l M A Z E (gPut G q (.inr (ci, fs))) (cells + 1) (slots + N) mem (pc + 3) lv (.ref q :: st)) : Xg l M A Z E G cells slots mem pc lv st := by
  intro p e s m args below meth c H locs ls C hP hD hS hL
  refine va_new C.1 C.2.1 C.2.2.2.2.1 hin ty hty C.2.2.2.1 (C.2.2.2.2.1 _ w1) (C.2.2.2.2.1 _ w2) (C.2.2.2.2.1 _ w3) C.2.2.2.2.2.2.2.2.1.1 hP hD hS C.2.2.2.2.2.2.2.2.2.1 hcl hfs hc hs hdg (fun q H1 hP1 hD1 hS1 => ?_)
  rw [← wd_put hCl] at hP1 hD1
  exact kk q p e s m args below meth c H1 locs ls C hP1 hD1 hS1 hL
theorem x_newaI {n : Int32} {N : Nat} (hCl : Cl G) (hdg : decode M.2.1 pc = .ok (.newarray .int, 2)) (w : Cond.arrayClass .int ∈ TB) (hn : ¬ n < 0) (hN : n.toNatClampNeg = N) (hb : N * 4 ≤ 536870912) (hc : cells + 1 ≤ M.2.2.2.2.cells) (hs : slots + N ≤ M.2.2.2.2.slots)
    (kk : ∀ q, Xg l M A Z E (gPut G q (rI (gC G) N (fun _ => 0))) (cells + 1) (slots + N) mem (pc + 2) lv (.ref q :: st)) : Xg l M A Z E G cells slots mem pc lv (.int n :: st) := by
  intro p e s m args below meth c H locs ls C hP hD hS hL
  have hK := C.2.2.2.2.2.2.2.2.1.1
  refine va_newa (atype := .int) (ty := .int) (a0 := (N, .inl (fun _ => 0))) C.1 C.2.1 (C.2.2.2.2.1 _ w) rfl hK hP hD hS C.2.2.2.2.2.2.2.2.2.1 (fun cA => rfl) hn hN hb hc hs hdg (fun q cA H1 hK1 hP1 hD1 hS1 => ?_)
  have e1 : s.vm.findClass ("[" ++ FieldType.int.toString) = some cA := (hK1.2 4 _ rfl).2
  have e2 : s.vm.findClass ("[" ++ FieldType.int.toString) = some (gC G).1 := (hK1.2 0 _ rfl).2
  have e3 : cA = (gC G).1 := Option.some.inj (e1.symm.trans e2)
  subst e3
  have hP1 : va_P (gD G) vwCl (wd (gK G) (gA G) (cellOf G mem) ++ [(q, rI (gC G) N (fun _ => 0))]) H1 := hP1
  have hD1 : va_D (A s) (wd (gK G) (gA G) (cellOf G mem) ++ [(q, rI (gC G) N (fun _ => 0))]) := hD1
  rw [← wd_put hCl] at hP1 hD1
  exact kk q p e s m args below meth c H1 locs ls C hP1 hD1 hS1 hL
theorem x_newaZ {n : Int32} {N : Nat} (hCl : Cl G) (hdg : decode M.2.1 pc = .ok (.newarray .boolean, 2)) (w : Cond.arrayClass .boolean ∈ TB) (hn : ¬ n < 0) (hN : n.toNatClampNeg = N) (hb : N * 1 ≤ 536870912) (hc : cells + 1 ≤ M.2.2.2.2.cells) (hs : slots + N ≤ M.2.2.2.2.slots)
    (kk : ∀ q, Xg l M A Z E (gPut G q (rZ (gC G) N (fun _ => 0))) (cells + 1) (slots + N) mem (pc + 2) lv (.ref q :: st)) : Xg l M A Z E G cells slots mem pc lv (.int n :: st) := by
  intro p e s m args below meth c H locs ls C hP hD hS hL
  have hK := C.2.2.2.2.2.2.2.2.1.1
  refine va_newa (atype := .boolean) (ty := .boolean) (a0 := (N, .inl (fun _ => 0))) C.1 C.2.1 (C.2.2.2.2.1 _ w) rfl hK hP hD hS C.2.2.2.2.2.2.2.2.2.1 (fun cA => rfl) hn hN hb hc hs hdg (fun q cA H1 hK1 hP1 hD1 hS1 => ?_)
  have e1 : s.vm.findClass ("[" ++ FieldType.boolean.toString) = some cA := (hK1.2 4 _ rfl).2
  have e2 : s.vm.findClass ("[" ++ FieldType.boolean.toString) = some (gC G).2.1 := (hK1.2 1 _ rfl).2
  have e3 : cA = (gC G).2.1 := Option.some.inj (e1.symm.trans e2)
  subst e3
  have hP1 : va_P (gD G) vwCl (wd (gK G) (gA G) (cellOf G mem) ++ [(q, rZ (gC G) N (fun _ => 0))]) H1 := hP1
  have hD1 : va_D (A s) (wd (gK G) (gA G) (cellOf G mem) ++ [(q, rZ (gC G) N (fun _ => 0))]) := hD1
  rw [← wd_put hCl] at hP1 hD1
  exact kk q p e s m args below meth c H1 locs ls C hP1 hD1 hS1 hL
theorem x_newF {index : Nat} {n : Int32} {N : Nat} (hCl : Cl G) (hdg : decode M.2.1 pc = .ok (.anewarray index, 3)) (w : Cond.classLink M.1.cls index RX1 ∈ TB) (hn : ¬ n < 0) (hN : n.toNatClampNeg = N) (hb : N * 4 ≤ 536870912) (hc : cells + 1 ≤ M.2.2.2.2.cells) (hs : slots + N ≤ M.2.2.2.2.slots)
    (kk : ∀ q, Xg l M A Z E (gPut G q (rF (gC G) N (fun _ => none))) (cells + 1) (slots + N) mem (pc + 3) lv (.ref q :: st)) : Xg l M A Z E G cells slots mem pc lv (.int n :: st) := by
  intro p e s m args below meth c H locs ls C hP hD hS hL
  have hK := C.2.2.2.2.2.2.2.2.1.1
  refine va_newq C.1 C.2.1 C.2.2.2.1 (C.2.2.2.2.1 _ w) C.2.2.2.2.2.2.2.2.1.2.1 hK hP hD hS C.2.2.2.2.2.2.2.2.2.1 hn hN hb hc hs hdg (fun q cA H1 hK1 hP1 hD1 hS1 => ?_)
  have e1 : s.vm.findClass ("[" ++ (FieldType.object RX1).toString) = some cA := by
    obtain ⟨_, _, _, _, _, f⟩ := (hK1.2 4 _ rfl).2
    exact f
  have e2 : s.vm.findClass ("[" ++ (FieldType.object RX1).toString) = some (gC G).2.2.1 := by
    obtain ⟨_, _, _, _, _, f⟩ := (hK1.2 2 _ rfl).2
    exact f
  have e3 : cA = (gC G).2.2.1 := Option.some.inj (e1.symm.trans e2)
  subst e3
  have hP1 : va_P (gD G) vwCl (wd (gK G) (gA G) (cellOf G mem) ++ [(q, rF (gC G) N (fun _ => none))]) H1 := hP1
  have hD1 : va_D (A s) (wd (gK G) (gA G) (cellOf G mem) ++ [(q, rF (gC G) N (fun _ => none))]) := hD1
  rw [← wd_put hCl] at hP1 hD1
  exact kk q p e s m args below meth c H1 locs ls C hP1 hD1 hS1 hL
/-- a final reference is written, in a constructor -/
theorem x_putR {index ci N v : Nat} {C0 ref : String} {T : u_T} (j k : Nat) {fs : List Value} {ty : FieldType} (hm : M.1.name = "<init>") (hdg : decode M.2.1 pc = .ok (.putfield index, 3)) (hj : j < gK G) (hc : gO G j = some (.inr (ci, fs))) (hcl : vwCl[ci]? = some (C0, T, N)) (hin : ∀ w ∈ u_ws C0 T N, w ∈ TB) (ty0 : Nat → FieldType) (hty : ∀ k, k < N → parseFieldDescriptor (T k).2.2.1 = some (ty0 k)) (hnm : ∀ a, a < N → ∀ b, b < N → a ≠ b → (T a).2.1 ≠ (T b).2.1) (hk : k < N) (hw : Cond.fieldLink M.1.cls index ref (T k).2.1 (T k).2.2.1 ∈ TB) (hsame : (T k).1 = ref) (hfin : (T k).2.2.2 = true) (hdecl : (T k).1 = M.1.cls) (hd : parseFieldDescriptor (T k).2.2.1 = some ty) (hn : narrow ty (.ref v) = .ref v) (hfit : fits ty (.ref v) = true) (hl : k < fs.length) (kk : Xg l M A Z E (gSet G j (.inr (ci, fs.set k (.ref v)))) cells slots mem (pc + 3) lv st) : Xg l M A Z E G cells slots mem pc lv (.ref v :: .ref (gA G j) :: st) := by
  intro p e s m args below meth c H locs ls C hP hD hS hL
  refine va_putF C.1 C.2.1 C.2.2.2.2.1 hin ty0 hty hnm C.2.2.2.1 C.2.2.2.2.2.2.2.2.1.1 hP hD hS j (by rw [wd_at hj]; exact congrArg (fun z => some (gA G j, z)) (cR_some hc)) hcl k hk (C.2.2.2.2.1 _ hw) (fun x h => by rw [hsame] at h; exact h) hfin (C.2.2.2.2.2.2.2.1.trans hm) hdecl hd hn hfit hl hdg (fun H1 locs1 hP1 hD1 hS1 => ?_)
  rw [wd_gset hj] at hP1 hD1
  exact kk p e s m args below meth c H1 locs1 ls C hP1 hD1 hS1 hL
/-- a forest is put into a row of forests -/
theorem x_astF {n : Nat} {vs : List Value} {f : Nat → Option Nat} {i : Int32} (j v : Nat) (hdg : decode M.2.1 pc = .ok (.aastore, 1)) (hj : j < gK G) (hc : gO G j = some (rF (gC G) n f)) (hv : v < gK G) (hvc : cellR G v (mem v) = .inr (1, vs)) (hin : vp_in i n) (kk : Xg l M A Z E (gSet G j (rF (gC G) n (va_up f i.toNatClampNeg (some (gA G v))))) cells slots mem (pc + 1) lv st) : Xg l M A Z E G cells slots mem pc lv (.ref (gA G v) :: .int i :: .ref (gA G j) :: st) := by
  intro p e s m args below meth c H locs ls C hP hD hS hL
  refine va_astq (r := (RX1, TX1, 3)) (cA := (gC G).2.2.1) (n := n) (f := f) C.1 C.2.1 C.2.2.2.2.2.2.2.2.1.1 hP hD hS j 2 v 1 (by rw [wd_at hj]; exact congrArg (fun z => some (gA G j, z)) (cR_some hc)) rfl (by rw [wd_at hv]; exact congrArg (fun z => some (gA G v, z)) hvc) rfl hin hdg (fun H1 locs1 hP1 hD1 hS1 => ?_)
  have hP1 : va_P (gD G) vwCl ((wd (gK G) (gA G) (cellOf G mem)).set j (gA G j, rF (gC G) n (va_up f i.toNatClampNeg (some (gA G v))))) H1 := hP1
  have hD1 : va_D (A s) ((wd (gK G) (gA G) (cellOf G mem)).set j (gA G j, rF (gC G) n (va_up f i.toNatClampNeg (some (gA G v))))) := hD1
  rw [wd_gset hj] at hP1 hD1
  exact kk p e s m args below meth c H1 locs1 ls C hP1 hD1 hS1 hL
end XG
theorem x_cast {l : Launch} {M : MTy} {A : State → Nat → Prop} {Z : List Frame → Array Value → State → State → Prop} {E : Array Value → State → Prop} {G G' : Gx} {cells slots : Nat} {mem : Mem} {pc : Nat} {lv : Lv} {st : List Value} (h : G = G') (kk : Xg l M A Z E G' cells slots mem pc lv st) : Xg l M A Z E G cells slots mem pc lv st := by
  subst h; exact kk
