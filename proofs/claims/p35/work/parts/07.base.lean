/-! THE BASE: all cells of the run as one numbered row of cells; a memory of ints over a fixed shape; one judgement Xg with a rule an instruction -/
def TB : List Cond := lw_tbl.filter goodWord
theorem TB_in {w : Cond} (i : Nat) (h : lw_tbl[i]? = some w) (g : goodWord w = true) : w ∈ TB := List.mem_filter.mpr ⟨List.mem_of_getElem? h, g⟩
theorem TB_good {w : Cond} (h : w ∈ TB) : (w.onTables && w.keeps) = true ∨ ∃ ty, w = .arrayClass ty := good_of_word (List.mem_filter.mp h).2
theorem TB_tbl {w : Cond} (h : w ∈ TB) : w ∈ lw_tbl := (List.mem_filter.mp h).1
/-- a method: its name, code, locals, what it returns, its room -/
abbrev MTy : Type := MethodName × ByteArray × Nat × Option FieldType × Room
abbrev Mem : Type := Nat → Nat → Int32
abbrev Lv : Type := List (Nat × Value)
/-- the numbered cells: the class numbers, the four array kinds, how many cells, their addresses, cells of another content -/
abbrev Gx : Type := va_G × (ClassId × ClassId × ClassId × ClassId) × Nat × (Nat → Nat) × (Nat → Option va_E)
abbrev gD (G : Gx) : va_G := G.1
abbrev gC (G : Gx) : ClassId × ClassId × ClassId × ClassId := G.2.1
abbrev gK (G : Gx) : Nat := G.2.2.1
abbrev gA (G : Gx) : Nat → Nat := G.2.2.2.1
abbrev gO (G : Gx) : Nat → Option va_E := G.2.2.2.2
abbrev T4 (cs : ClassId × ClassId × ClassId × ClassId) : List (ClassId × FieldType) := [(cs.1, .int), (cs.2.1, .boolean), (cs.2.2.1, .object RX1), (cs.2.2.2, .array .int)]
def wd (K : Nat) (ad : Nat → Nat) (ct : Nat → va_E) : va_W := (List.range K).map (fun i => (ad i, ct i))
theorem wd_at {K : Nat} {ad : Nat → Nat} {ct : Nat → va_E} {j : Nat} (h : j < K) : (wd K ad ct)[j]? = some (ad j, ct j) := by
  simp [wd, h]
theorem wd_len {K : Nat} {ad : Nat → Nat} {ct : Nat → va_E} : (wd K ad ct).length = K := by simp [wd]
theorem wd_mem {K : Nat} {ad : Nat → Nat} {ct : Nat → va_E} {k : Nat} {q : Nat × va_E} (h : (wd K ad ct)[k]? = some q) : k < K ∧ q = (ad k, ct k) := by
  have hk : k < K := by have := (List.getElem?_eq_some_iff.mp h).1; rwa [wd_len] at this
  rw [wd_at hk] at h
  exact ⟨hk, (Option.some.inj h).symm⟩
theorem wd_set {K : Nat} {ad : Nat → Nat} {ct ct' : Nat → va_E} {j : Nat} {e : va_E} (h : j < K) (he : ct' j = e) (ho : ∀ i, i ≠ j → ct' i = ct i) : (wd K ad ct).set j (ad j, e) = wd K ad ct' := by
  apply List.ext_getElem?
  intro i
  by_cases hij : i = j
  · subst hij
    rw [List.getElem?_set_self (by rw [wd_len]; exact h), wd_at h, he]
  · rw [List.getElem?_set_ne (Ne.symm hij)]
    by_cases hi : i < K
    · rw [wd_at hi, wd_at hi, ho i hij]
    · rw [List.getElem?_eq_none (by rw [wd_len]; omega), List.getElem?_eq_none (by rw [wd_len]; omega)]
theorem wd_congr {K : Nat} {ad ad' : Nat → Nat} {ct ct' : Nat → va_E} (h : ∀ i, i < K → ct i = ct' i) (h2 : ∀ i, i < K → ad i = ad' i) : wd K ad ct = wd K ad' ct' := by
  unfold wd
  apply List.map_congr_left
  intro i hi
  rw [h i (List.mem_range.mp hi), h2 i (List.mem_range.mp hi)]
theorem wd_push {K : Nat} {ad : Nat → Nat} {ct : Nat → va_E} : wd (K + 1) ad ct = wd K ad ct ++ [(ad K, ct K)] := by
  simp [wd, List.range_succ]
/-! the shape -/
def rI (cs : ClassId × ClassId × ClassId × ClassId) (n : Nat) (r : Nat → Int32) : va_E := .inl (cs.1, n, .inl r)
def rZ (cs : ClassId × ClassId × ClassId × ClassId) (n : Nat) (r : Nat → Int32) : va_E := .inl (cs.2.1, n, .inl r)
def rF (cs : ClassId × ClassId × ClassId × ClassId) (n : Nat) (f : Nat → Option Nat) : va_E := .inl (cs.2.2.1, n, .inr (.inr (.inr (.inr f))))
def rR (cs : ClassId × ClassId × ClassId × ClassId) (n : Nat) (f : Nat → Option Nat) : va_E := .inl (cs.2.2.2, n, .inr (.inr (.inr (.inr f))))
/-- a forest's fifteen cells, from b on -/
def cF (cs : ClassId × ClassId × ClassId × ClassId) (ad : Nat → Nat) (b i : Nat) (r : Nat → Int32) : va_E :=
  if i = 0 then .inr (1, [.int (r 0), .ref (ad (b + 1)), .ref (ad (b + 2))]) else if i = 2 then rR cs 12 (fun k => if k < 12 then some (ad (b + 3 + k)) else none) else rI cs 12 r
/-- a survey's fourteen cells -/
def cS (cs : ClassId × ClassId × ClassId × ClassId) (ad : Nat → Nat) (f b i : Nat) (r : Nat → Int32) : va_E :=
  if i = 0 then .inr (5, [.ref (ad f), .int (r 1), .ref (ad (b + 1))]) else if i = 1 then rR cs 12 (fun k => if k < 12 then some (ad (b + 2 + k)) else none) else rI cs 12 r
def cC (cs : ClassId × ClassId × ClassId × ClassId) (ad : Nat → Nat) (j : Nat) (r : Nat → Int32) : va_E :=
  if j = 59 then .inr (0, [.int (r 0), .int (r 1), .int (r 2), .ref (ad 60), .ref (ad 61), .ref (ad 62), .ref (ad 63)]) else if j = 60 then rZ cs 12 r else if j = 61 then rZ cs 12 r else if j = 63 then rR cs 12 (fun k => if k < 12 then some (ad (64 + k)) else none) else rI cs 12 r
def cT (cs : ClassId × ClassId × ClassId × ClassId) (ad : Nat → Nat) (j : Nat) (r : Nat → Int32) : va_E :=
  if j = 76 then .inr (4, [.int (r 0), .ref (ad 77), .int (r 2), .ref (ad 78)]) else if j = 77 then rI cs 80 r else if j = 78 then rI cs 12 r else if j = 79 then .inr (2, [.ref (ad 80), .int (r 1), .int (r 2)]) else rF cs 14 (fun k => if k < 14 then some (ad (81 + 15 * k)) else none)
def cO (cs : ClassId × ClassId × ClassId × ClassId) (ad : Nat → Nat) (j : Nat) (r : Nat → Int32) : va_E :=
  if j = 291 then .inr (3, [.ref (ad 292), .ref (ad 293), .ref (ad 294), .int (r 3), .int (r 4)]) else if j = 295 then rF cs 2 (fun k => if k < 2 then some (ad (296 + 15 * k)) else none) else rI cs 6 r
/-- what an object's cell of number j is, with the ints r -/
def cell0 (cs : ClassId × ClassId × ClassId × ClassId) (ad : Nat → Nat) (j : Nat) (r : Nat → Int32) : va_E :=
  if j = 0 then .inr (6, [.ref (ad 1), .ref (ad 16), .ref (ad 30), .ref (ad 45), .ref (ad 59), .ref (ad 76), .ref (ad 79), .ref (ad 291), .ref (ad 295), .ref (ad 326)])
  else if j < 16 then cF cs ad 1 (j - 1) r else if j < 30 then cS cs ad 1 16 (j - 16) r else if j < 45 then cF cs ad 30 (j - 30) r else if j < 59 then cS cs ad 30 45 (j - 45) r
  else if j < 76 then cC cs ad j r else if j < 81 then cT cs ad j r else if j < 291 then cF cs ad (81 + 15 * ((j - 81) / 15)) ((j - 81) % 15) r else if j < 296 then cO cs ad j r
  else if j < 326 then cF cs ad (296 + 15 * ((j - 296) / 15)) ((j - 296) % 15) r else rZ cs 2 r
/-- what the cell of number j is, of two objects behind each other, with the ints r -/
def cellAt (cs : ClassId × ClassId × ClassId × ClassId) (ad : Nat → Nat) (j : Nat) (r : Nat → Int32) : va_E :=
  if j = 0 then .inr (6, [.ref (ad 1), .ref (ad 16), .ref (ad 30), .ref (ad 45), .ref (ad 59), .ref (ad 76), .ref (ad 79), .ref (ad 291), .ref (ad 295), .ref (ad 326)])
  else if j < 16 then cF cs ad 1 (j - 1) r else if j < 30 then cS cs ad 1 16 (j - 16) r else if j < 45 then cF cs ad 30 (j - 30) r else if j < 59 then cS cs ad 30 45 (j - 45) r
  else if j < 76 then cC cs ad j r else if j < 81 then cT cs ad j r else if j < 291 then cF cs ad (81 + 15 * ((j - 81) / 15)) ((j - 81) % 15) r else if j < 296 then cO cs ad j r
  else if j < 326 then cF cs ad (296 + 15 * ((j - 296) / 15)) ((j - 296) % 15) r else if j = 326 then rZ cs 2 r else cell0 cs (fun i => ad (327 + i)) (j - 327) r
def cellR (G : Gx) (j : Nat) (r : Nat → Int32) : va_E := match gO G j with
  | some e => e
  | none => cellAt (gC G) (gA G) j r
abbrev cellOf (G : Gx) (m : Mem) : Nat → va_E := fun j => cellR G j (m j)
def wrA (m : Mem) (j : Nat) (g : Nat → Int32) : Mem := fun a => if a = j then g else m a
abbrev wr (m : Mem) (j k : Nat) (v : Int32) : Mem := wrA m j (upd (m j) k v)
/-- arrays of int rows, and of forests: their classes are there -/
def kx_AA (U : State) : Prop := (Cond.arrayOver (.array .int)).before #[] U = true
theorem kx_AA.moved {u U : State} (hvm : u.vm.Alike U.vm) (h : kx_AA u) : kx_AA U := by
  unfold kx_AA Cond.before Cond.holds at h ⊢
  simp only [Cond.value, beq_iff_eq] at h ⊢
  cases hc : u.vm.findClass (FieldType.array .int).toString with
  | none => simp [hc] at h
  | some comp =>
    simp only [hc, Option.bind_some, Option.bind_eq_some_iff, Option.map_eq_some_iff] at h
    obtain ⟨c, hi, k, hk, hb⟩ := h
    obtain ⟨k', hk', he⟩ := hvm.2.2 _ _ hk
    have e1 := va_idx_bare U.vm comp
    have e2 := va_idx_bare u.vm comp
    have e3 : U.vm.bare = u.vm.bare := by first | exact hvm.bare_eq | exact hvm.bare_eq.symm
    rw [e3] at e1
    have hkind : k'.kind = k.kind := by rw [he]
    have f1 : U.vm.findClass (FieldType.array .int).toString = some comp := by rw [hvm.findClass]; exact hc
    rw [f1, Option.bind_some]
    refine (congrArg (fun o : Option Nat => (o.bind (fun c => (U.vm.classes[c]?).map fun (k : Class) => match k.kind with | .array _ ty => decide (ty = FieldType.array .int) && decide (U.vm.findClass ("[" ++ (FieldType.array .int).toString) = some c) | _ => false))) (e1.symm.trans (e2.trans hi))).trans ?_
    simp only [Option.bind_some, hk', Option.map_some]
    rw [hkind, hvm.findClass]
    exact congrArg some hb
def Kx (G : Gx) (U : State) : Prop := va_K (gD G) vwCl (T4 (gC G)) U ∧ va_AO RX1 U ∧ kx_AA U
theorem Kx.moved {G : Gx} {u U : State} (hvm : u.vm.Alike U.vm) (h : Kx G u) : Kx G U := ⟨h.1.moved hvm, h.2.1.moved hvm, h.2.2.moved hvm⟩
/-! the judgement -/
def Cx (M : MTy) (A : State → Nat → Prop) (E : Array Value → State → Prop) (G : Gx) (p : Program) (s : State) (m : MethodId) (args : Array Value) (meth : Method) (c : Code) : Prop :=
  p.tables.exec = Jvm.exec ∧ c.code = M.2.1 ∧ c.maxLocals = M.2.2.1 ∧ s.vm.findClass M.1.cls = some m.cls ∧ (∀ w ∈ TB, w.before args s = true) ∧ meth.sig.returnType = M.2.2.2.1 ∧ meth.locks = false ∧ meth.name = M.1.name ∧ Kx G s ∧ (∀ q, s.heap.size ≤ q → A s q) ∧ E args s
def Xg (l : Launch) (M : MTy) (A : State → Nat → Prop) (Z : List Frame → Array Value → State → State → Prop) (E : Array Value → State → Prop) (G : Gx) (cells slots : Nat) (mem : Mem) (pc : Nat) (lv : Lv) (st : List Value) : Prop :=
  ∀ (p : Program) (e : Env) (s : State) (m : MethodId) (args : Array Value) (below : List Frame) (meth : Method) (c : Code) (H : Heap) (locs : List Loc) (ls : Array Slot),
    Cx M A E G p s m args meth c → va_P (gD G) vwCl (wd (gK G) (gA G) (cellOf G mem)) H → va_D (A s) (wd (gK G) (gA G) (cellOf G mem)) → va_S (A s) s.heap H locs → lv_has ls M.2.2.1 lv →
    W p l e M.2.2.2.2 s m args below meth c H locs cells slots (Z below args s) (F0 m pc ls st)
/-- which cells a method may change -/
def Fr (G : Gx) (sz : Nat) : Nat → Prop := fun q => (∃ i, i < gK G ∧ q = gA G i) ∨ sz ≤ q
/-- what a method's end says -/
def Qm (G : Gx) (P : Option Value → Gx → Mem → Prop) (sz : Nat) : Array Value → State → Outcome → State → Prop := fun _ st oc t =>
  (∃ (o : Option Value) (G' : Gx) (mem' : Mem), oc = .returned o ∧ P o G' mem' ∧ gD G' = gD G ∧ gC G' = gC G ∧ va_P (gD G) vwCl (wd (gK G') (gA G') (cellOf G' mem')) t.heap ∧ va_D (Fr G sz) (wd (gK G') (gA G') (cellOf G' mem'))) ∧ va_F (Fr G sz) st t
def Pm (G : Gx) (mem : Mem) (sz : Nat) : State → Prop := fun U => U.heap.size = sz ∧ va_P (gD G) vwCl (wd (gK G) (gA G) (cellOf G mem)) U.heap ∧ Kx G U ∧ va_D (fun _ => True) (wd (gK G) (gA G) (cellOf G mem))
abbrev wsM (M : MTy) : List Cond := Cond.code M.1 M.2.1 M.2.2.1 M.2.2.2.1 :: TB
/-- CONTRACT: from the memory mem, with the arguments As, the method returns, and its answer, the cells and the memory satisfy P -/
def Ctg (l : Launch) (M : MTy) (G : Gx) (mc ms : Nat) (As : List Value) (mem : Mem) (P : Option Value → Gx → Mem → Prop) : Prop :=
  ∀ sz : Nat, Met l M.1 (wsM M) M.2.2.2.2 (va_Pc As (Pm G mem sz)) (Qm G P sz) mc ms (Fr G sz)
abbrev Ct (l : Launch) (M : MTy) (G : Gx) (As : List Value) (mem : Mem) (P : Option Value → Mem → Prop) : Prop := Ctg l M G 0 0 As mem (fun o G' m' => G' = G ∧ P o m')
abbrev CtI (l : Launch) (M : MTy) (G : Gx) (As : List Value) (mem : Mem) (P : Int32 → Mem → Prop) : Prop := Ct l M G As mem (fun o m' => ∃ r, o = some (.int r) ∧ P r m')
abbrev CtL (l : Launch) (M : MTy) (G : Gx) (As : List Value) (mem : Mem) (P : Int64 → Mem → Prop) : Prop := Ct l M G As mem (fun o m' => ∃ r, o = some (.long r) ∧ P r m')
abbrev CtV (l : Launch) (M : MTy) (G : Gx) (As : List Value) (mem : Mem) (P : Mem → Prop) : Prop := Ct l M G As mem (fun o m' => o = none ∧ P m')
/-- the judgement inside a method of a contract that answers P -/
abbrev Xm (l : Launch) (M : MTy) (G0 : Gx) (mc ms : Nat) (P : Option Value → Gx → Mem → Prop) (G : Gx) (cells slots : Nat) (mem : Mem) (pc : Nat) (lv : Lv) (st : List Value) : Prop :=
  Xg l M (fun s => Fr G0 s.heap.size) (fun below args s => MQ below (Qm G0 P s.heap.size) args s mc ms (Fr G0 s.heap.size)) (fun _ _ => True) G cells slots mem pc lv st
abbrev XI (l : Launch) (M : MTy) (G : Gx) (P : Int32 → Mem → Prop) (mem : Mem) (pc : Nat) (lv : Lv) (st : List Value) : Prop := Xm l M G 0 0 (fun o G' m' => G' = G ∧ ∃ r, o = some (.int r) ∧ P r m') G 0 0 mem pc lv st
abbrev XL (l : Launch) (M : MTy) (G : Gx) (P : Int64 → Mem → Prop) (mem : Mem) (pc : Nat) (lv : Lv) (st : List Value) : Prop := Xm l M G 0 0 (fun o G' m' => G' = G ∧ ∃ r, o = some (.long r) ∧ P r m') G 0 0 mem pc lv st
abbrev XV (l : Launch) (M : MTy) (G : Gx) (P : Mem → Prop) (mem : Mem) (pc : Nat) (lv : Lv) (st : List Value) : Prop := Xm l M G 0 0 (fun o G' m' => G' = G ∧ o = none ∧ P m') G 0 0 mem pc lv st
theorem Ctg.mono {l : Launch} {M : MTy} {G : Gx} {mc ms : Nat} {As : List Value} {mem : Mem} {P P' : Option Value → Gx → Mem → Prop} (h : Ctg l M G mc ms As mem P) (hp : ∀ o G' m', P o G' m' → P' o G' m') : Ctg l M G mc ms As mem P' := by
  intro sz p e ha hc hk s m args below hf h1 h2 h3
  obtain ⟨k, o, g1, g2, g3, ⟨⟨⟨o1, G', m', e1, e2, e3⟩, e4⟩, e5⟩⟩ := h sz p e ha hc hk s m args below hf h1 h2 h3
  exact ⟨k, o, g1, g2, g3, ⟨⟨⟨o1, G', m', e1, hp _ _ _ e2, e3⟩, e4⟩, e5⟩⟩
/-- from the first instruction to the contract -/
theorem Ctg.of {l : Launch} {M : MTy} {G : Gx} {mc ms : Nat} {As : List Value} {mem : Mem} {P : Option Value → Gx → Mem → Prop} (hy : plainName M.1.cls = true) (hn : (lg_sl As).length ≤ M.2.2.1) {lv : Lv} (hlv : lv_args 0 As = lv)
    (k : Xm l M G mc ms P G 0 0 mem 0 lv []) : Ctg l M G mc ms As mem P := by
  intro sz
  refine Met.ofW (cc := M.2.1) (maxL := M.2.2.1) (ret := M.2.2.2.1) hy rfl ?_
  intro p e s m args below meth c s₁ B hml hv
  obtain ⟨rfl, hsz, hP, hK, hD0⟩ := hv
  have hts := atoms_spec (ws := wsM M) B.pre
  subst hsz
  have hC : Cx M (fun s => Fr G s.heap.size) (fun _ _ => True) G p s m As.toArray meth c :=
    ⟨B.exec, B.bytes, hml, findClass_of_methodNamed B.named, fun w h => hts w (List.mem_cons_of_mem _ h), B.returns, B.notSynchronized, (name_of_methodNamed B.named B.method).1, hK, fun q h => Or.inr h, trivial⟩
  have hl := lv_entry As (n := M.2.2.1) hn
  rw [hlv] at hl
  rw [lg_entry_eq]
  exact k p e s m As.toArray below meth c s.heap [] _ hC hP (hD0.weaken (fun k q hq _ => by obtain ⟨h1, rfl⟩ := wd_mem hq; exact Or.inl ⟨k, h1, rfl⟩)) va_S.rf hl
