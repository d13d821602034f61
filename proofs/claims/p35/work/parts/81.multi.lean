/-! multianewarray, of 12 rows of 12 ints -/
theorem out_arr0 (c : ClassId) (N h0 : Nat) : ∀ i : Nat, Jvm.Free.Multi.outerC c N h0 i = arrV c N (fun j => va_rf (if j < i then some (h0 + 1 + j) else none))
  | 0 => by
    show ({ cls := c, slots := Array.replicate N .null, vm := .none } : Cell) = _
    rw [arrV_new]
    refine congrArg (arrV c N) (funext fun j => ?_)
    simp [va_rf]
  | i + 1 => by
    show (Jvm.Free.Multi.outerC c N h0 i).setSlot i (.ref (h0 + 1 + i)) = _
    rw [out_arr0 c N h0 i, arrV_store]
    refine congrArg (arrV c N) (funext fun j => ?_)
    by_cases e : j = i
    · subst e
      simp [updV, va_rf]
    · by_cases h : j < i
      · simp [updV, e, h, Nat.lt_succ_of_lt h]
      · simp [updV, e, h, show ¬ j < i + 1 by omega]
theorem out_arr (cA : ClassId) (h0 : Nat) : Jvm.Free.Multi.outerC cA 12 h0 12 = arrV cA 12 (fun j => va_rf (if j < 12 then some (h0 + 1 + j) else none)) := out_arr0 cA 12 h0 12
section XG
variable {l : Launch} {M : MTy} {A : State → Nat → Prop} {Z : List Frame → Array Value → State → State → Prop} {E : Array Value → State → Prop} {G : Gx} {cells slots : Nat} {mem : Mem} {pc : Nat} {lv : Lv} {st : List Value}
theorem x_multi {index : Nat} (hCl : Cl G) (hdg : decode M.2.1 pc = .ok (.multianewarray index 2, 4)) (w1 : Cond.classLink M.1.cls index "[[I" ∈ TB) (w2 : Cond.arrayClass .int ∈ TB) (hc : cells + 13 ≤ M.2.2.2.2.cells) (hs : slots + 156 ≤ M.2.2.2.2.slots)
    (kk : ∀ q, Xg l M A Z E (gGrid G q) (cells + 13) (slots + 156) mem (pc + 4) lv (.ref q :: st)) : Xg l M A Z E G cells slots mem pc lv (.int 12 :: .int 12 :: st) := by
  intro p e s m args below meth c H locs ls C hP hD hS hL
  intro T hT X
  have hK := C.2.2.2.2.2.2.2.2.1
  obtain ⟨vm₁, cA, comp, hW, hfA, hfC, hO, hI, X1, step⟩ := Stand.multianewarray2F X C.1 (own := M.1.cls) (index := index) (ty := .int) C.2.2.2.1 (C.2.2.2.2.1 _ w1) hK.2.2 (C.2.2.2.2.1 _ w2) (g := F0 m pc ls (.int 12 :: .int 12 :: st)) rfl (by rw [C.2.1]; exact hdg) (n := 12) (k := 12) (rest := st) rfl (by decide) (by decide) (Nat.le_of_ble_eq_true rfl) (Nat.le_of_ble_eq_true rfl) (Nat.le_of_ble_eq_true rfl) rfl rfl hc hs
  have eA : cA = (gC G).2.2.2 := by
    have e2 : s.vm.findClass ("[" ++ (FieldType.array .int).toString) = some (gC G).2.2.2 := (hK.1.2 3 _ rfl).2
    exact Option.some.inj (hfA.symm.trans e2)
  have eC : comp = (gC G).1 := by
    have e2 : s.vm.findClass ("[" ++ FieldType.int.toString) = some (gC G).1 := (hK.1.2 0 _ rfl).2
    exact Option.some.inj (hfC.symm.trans e2)
  subst eA
  subst eC
  have n12 : (12 : Int32).toNatClampNeg = 12 := rfl
  rw [n12] at X1 step
  have hsz : (T.setVm vm₁).heap.size = H.size := by rw [← hT]; rfl
  have f1 : (Jvm.Free.Multi.fill (T.setVm vm₁) (gC G).2.2.2 (gC G).1 12 12 (defaultValue .int) 12).heap.size = H.size + 1 + 12 := by rw [← hsz]; exact (Jvm.Free.Multi.fill_facts (T.setVm vm₁) (gC G).2.2.2 (gC G).1 12 12 (defaultValue .int) 12).1
  have f2 : (Jvm.Free.Multi.fill (T.setVm vm₁) (gC G).2.2.2 (gC G).1 12 12 (defaultValue .int) 12).heap[H.size]? = some (Jvm.Free.Multi.outerC (gC G).2.2.2 12 H.size 12) := by rw [← hsz]; exact (Jvm.Free.Multi.fill_facts (T.setVm vm₁) (gC G).2.2.2 (gC G).1 12 12 (defaultValue .int) 12).2.1
  have f3 : ∀ a, a < H.size → (Jvm.Free.Multi.fill (T.setVm vm₁) (gC G).2.2.2 (gC G).1 12 12 (defaultValue .int) 12).heap[a]? = H[a]? := fun a ha => by
    rw [Jvm.Free.Multi.fill_old (T.setVm vm₁) (gC G).2.2.2 (gC G).1 12 12 (defaultValue .int) (by rw [hsz]; exact ha) 12, ← hT]; rfl
  have f4 : ∀ j, j < 12 → (Jvm.Free.Multi.fill (T.setVm vm₁) (gC G).2.2.2 (gC G).1 12 12 (defaultValue .int) 12).heap[H.size + 1 + j]? = some (Jvm.Free.Multi.innerC (gC G).1 12 (defaultValue .int)) := fun j hj => by
    rw [← hsz]; exact Jvm.Free.Multi.fill_inner (T.setVm vm₁) (gC G).2.2.2 (gC G).1 12 12 (defaultValue .int) 12 j hj
  have hq : T.heap.size = H.size := by rw [hT]
  rw [hq] at step
  generalize Jvm.Free.Multi.fill (T.setVm vm₁) (gC G).2.2.2 (gC G).1 12 12 (defaultValue .int) 12 = U at X1 step f1 f2 f3 f4
  have eK : gK (gGrid G H.size) = gK G + 13 := rfl
  have eA : ∀ i, gA (gGrid G H.size) i = if i < gK G then gA G i else H.size + (i - gK G) := fun _ => rfl
  have eO : ∀ i, gO (gGrid G H.size) i = if i < gK G then gO G i else if i = gK G then some (rR (gC G) 12 (fun k => if k < 12 then some (H.size + 1 + k) else none)) else some (rI (gC G) 12 (fun _ => 0)) := fun _ => rfl
  have old : ∀ k, k < gK G → va_at (gD G) vwCl (gA G k, cellOf G mem k) H := fun k hk => hP k _ (wd_at hk)
  have lt : ∀ k, k < gK G → gA G k < H.size := fun k hk => (old k hk).lt
  have hP1 : va_P (gD (gGrid G H.size)) vwCl (wd (gK (gGrid G H.size)) (gA (gGrid G H.size)) (cellOf (gGrid G H.size) mem)) U.heap := by
    intro k x hx
    obtain ⟨h1, rfl⟩ := wd_mem hx
    by_cases ck : k < gK G
    · have e1 : cellOf (gGrid G H.size) mem k = cellOf G mem k := cR_grid hCl ck _
      rw [e1, eA, if_pos ck]
      exact (old k ck).kept (f3 _ (lt k ck))
    · by_cases ck2 : k = gK G
      · have e1 : cellOf (gGrid G H.size) mem k = rR (gC G) 12 (fun k => if k < 12 then some (H.size + 1 + k) else none) := cR_some (by rw [eO, if_neg ck, if_pos ck2])
        rw [e1, eA, if_neg ck, ck2, Nat.sub_self, Nat.add_zero]
        show U.heap[H.size]? = some (vp_cell _ _)
        rw [f2, out_arr]
        rfl
      · have e1 : cellOf (gGrid G H.size) mem k = rI (gC G) 12 (fun _ => 0) := cR_some (by rw [eO, if_neg ck, if_neg ck2])
        rw [e1, eA, if_neg ck]
        show U.heap[H.size + (k - gK G)]? = some (vp_cell _ _)
        have h1 : k < gK G + 13 := h1
        rw [show H.size + (k - gK G) = H.size + 1 + (k - gK G - 1) by omega, f4 _ (by omega)]
        show _ = some (arrV (gC G).1 12 (fun _ => .int 0))
        rw [← arrV_new]
        rfl
  have hD1 : va_D (A s) (wd (gK (gGrid G H.size)) (gA (gGrid G H.size)) (cellOf (gGrid G H.size) mem)) := by
    refine ⟨fun i j x y hx hy hxy => ?_, fun k x hx => ?_⟩
    · obtain ⟨h1, rfl⟩ := wd_mem hx
      obtain ⟨h2, rfl⟩ := wd_mem hy
      have hxy : gA (gGrid G H.size) i = gA (gGrid G H.size) j := hxy
      rw [eA, eA] at hxy
      by_cases ci : i < gK G
      · rw [if_pos ci] at hxy
        have li := lt i ci
        by_cases cj : j < gK G
        · rw [if_pos cj] at hxy
          exact hD.1 i j _ _ (wd_at ci) (wd_at cj) hxy
        · rw [if_neg cj] at hxy; omega
      · rw [if_neg ci] at hxy
        by_cases cj : j < gK G
        · rw [if_pos cj] at hxy
          have lj := lt j cj
          omega
        · rw [if_neg cj] at hxy; omega
    · obtain ⟨h1, rfl⟩ := wd_mem hx
      show A s (gA (gGrid G H.size) k)
      rw [eA]
      by_cases ck : k < gK G
      · rw [if_pos ck]; exact hD.2 k _ (wd_at ck)
      · rw [if_neg ck]; exact C.2.2.2.2.2.2.2.2.2.1 _ (Nat.le_trans hS.1 (Nat.le_add_right _ _))
  have hS1 : va_S (A s) s.heap U.heap locs := ⟨Nat.le_trans hS.1 (by omega), fun x h1 h2 => (f3 x (Nat.lt_of_lt_of_le h1 hS.1)).trans (hS.2.1 x h1 h2), hS.2.2⟩
  obtain ⟨t, a1, b1⟩ := kk H.size p e s m args below meth c U.heap locs ls C hP1 hD1 hS1 hL U rfl X1
  exact ⟨t, step t a1, b1⟩
end XG
