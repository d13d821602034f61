/-! two objects behind each other: a contract over one of them serves in the world of both -/
def gL (G : Gx) : Gx := (gD G, gC G, 327, gA G, gO G)
def gR (G : Gx) (k : Nat) : Gx := (gD G, gC G, k, (fun i => gA G (i + 327)), fun i => gO G (i + 327))
def sh (m : Mem) : Mem := fun j => m (j + 327)
def jM (m m1 : Mem) : Mem := fun j => if j < 327 then m j else m1 (j - 327)
/-- the first object of G, and the cells of K behind it -/
def jG (G K : Gx) : Gx := (gD G, gC G, gK K + 327, (fun i => if i < 327 then gA G i else gA K (i - 327)), fun i => if i < 327 then gO G i else gO K (i - 327))
section TW
variable {l : Launch} {M : MTy} {G K : Gx} {mc ms : Nat} {As : List Value} {mem m m1 : Mem} {kk : Nat}
theorem sh_jM : sh (jM m m1) = m1 := by
  funext j
  show (if j + 327 < 327 then m (j + 327) else m1 (j + 327 - 327)) = m1 j
  rw [if_neg (by omega), show j + 327 - 327 = j by omega]
theorem jM_lo {j : Nat} (h : j < 327) : jM m m1 j = m j := if_pos h
theorem jM_hi (j : Nat) : jM m m1 (j + 327) = m1 j := congrFun sh_jM j
theorem cR_lo {j : Nat} {r : Nat → Int32} (hO : gO G j = none) (hj : j < 327) : cellR G j r = cell0 (gC G) (gA G) j r := by
  unfold cellR
  rw [hO]
  exact c_lo hj
theorem cR_hi {j : Nat} {r : Nat → Int32} (hj : j < 327) : cellR G (j + 327) r = cellR (gR G kk) j r := by
  cases h : gO G (j + 327) with
  | some e => rw [cR_some h, cR_some (G := gR G kk) (e := e) h]
  | none =>
    rw [cR_none h, cR_none (G := gR G kk) h]
    exact c_hi.trans (c_lo hj).symm
theorem jG_hi {j : Nat} {r : Nat → Int32} (hC : gC K = gC G) (hj : j < 327) : cellR (jG G K) (j + 327) r = cellR K j r := by
  have e1 : gO (jG G K) (j + 327) = gO K j := by
    show (if j + 327 < 327 then gO G (j + 327) else gO K (j + 327 - 327)) = gO K j
    rw [if_neg (by omega), show j + 327 - 327 = j by omega]
  have e2 : (fun k => gA (jG G K) (k + 327)) = gA K := by
    funext k
    show (if k + 327 < 327 then gA G (k + 327) else gA K (k + 327 - 327)) = gA K k
    rw [if_neg (by omega), show k + 327 - 327 = k by omega]
  cases h : gO K j with
  | some e => rw [cR_some (e1.trans h), cR_some h]
  | none =>
    rw [cR_none (e1.trans h), cR_none h, c_hi, e2, c_lo hj]
    rw [hC]
    rfl
theorem jG_lo {j : Nat} {r : Nat → Int32} (hO : gO G j = none) (hj : j < 327) : cellR (jG G K) j r = cellR G j r := by
  have e1 : gO (jG G K) j = none := (if_pos hj).trans hO
  rw [cR_lo e1 hj, cR_lo hO hj]
  exact cl0 (fun k hk => if_pos hk)
/-- the second object's contract -/
theorem Pm_R {sz : Nat} {s : State} {args : Array Value} {ct : Nat → va_E} (hA : args = As.toArray) (hsz : s.heap.size = sz) (hP : va_P (gD G) vwCl (wd (gK (gR G kk)) (gA (gR G kk)) (cellOf (gR G kk) (sh mem))) s.heap) (hK : Kx G s) (hD : va_D (fun _ => True) (wd (gK (gR G kk)) (gA (gR G kk)) (cellOf (gR G kk) (sh mem)))) : va_Pc As (Pm (gR G kk) (sh mem) sz) args s := ⟨hA, hsz, hP, hK, hD⟩
theorem fr_R {P : Option Value → Gx → Mem → Prop} (hk : gK G = kk + 327) (hk2 : kk ≤ 327) (hO : ∀ j, j < 327 → gO G j = none) (h : Ctg l M (gR G kk) mc ms As (sh mem) P) (hP : ∀ o K m, P o K m → gK K ≤ 327) : Ctg l M G mc ms As mem (fun o G' m' => ∃ K m1, P o K m1 ∧ gC K = gC G ∧ G' = jG G K ∧ m' = jM mem m1) := by
  intro sz p e ha hc hk1 s m args below hf h1 h2 h3
  obtain ⟨hA, hsz, hP0, hKx, hD0⟩ := h2
  have at1 : ∀ k q, (wd (gK (gR G kk)) (gA (gR G kk)) (cellOf (gR G kk) (sh mem)))[k]? = some q → (wd (gK G) (gA G) (cellOf G mem))[k + 327]? = some q ∧ k < gK (gR G kk) := by
    intro k q hq
    obtain ⟨hlt, rfl⟩ := wd_mem hq
    have hlt' : k < kk := hlt
    refine ⟨?_, hlt⟩
    rw [wd_at (by omega)]
    refine congrArg some (Prod.ext rfl ?_)
    exact cR_hi (by omega)
  have h2' : va_Pc As (Pm (gR G kk) (sh mem) sz) args s := Pm_R (ct := fun _ => .inl ((gC G).1, 0, .inl (fun _ => 0))) hA hsz (fun k q hq => hP0 (k + 327) q (at1 k q hq).1) hKx ⟨fun i j p q hp hq e => by
    have := hD0.1 (i + 327) (j + 327) p q (at1 i p hp).1 (at1 j q hq).1 e
    omega, fun _ _ _ => trivial⟩
  obtain ⟨k, o, g1, g2, g3, ⟨⟨⟨o1, K, m', e1, e2, ed, ec, ep, eD⟩, e4⟩, L, e5, e6⟩⟩ := h sz p e ha hc hk1 s m args below hf h1 h2' h3
  have fr : ∀ q, Fr (gR G kk) sz q → Fr G sz q := by
    rintro q (⟨i, hi, rfl⟩ | hq)
    · have hi' : i < kk := hi
      exact Or.inl ⟨i + 327, by omega, rfl⟩
    · exact Or.inr hq
  have kl := hP _ _ _ e2
  -- the first object's cells stay as they were
  have lo : ∀ j, j < 327 → gA G j < sz ∧ ¬ Fr (gR G kk) sz (gA G j) := by
    intro j hj
    have hw := wd_at (K := gK G) (ad := gA G) (ct := cellOf G mem) (j := j) (by omega)
    have lt : gA G j < s.heap.size := (hP0 j _ hw).lt
    refine ⟨by omega, ?_⟩
    rintro (⟨i, hi, hij⟩ | hq)
    · have hi' : i < kk := hi
      have hw2 := wd_at (K := gK G) (ad := gA G) (ct := cellOf G mem) (j := i + 327) (by omega)
      have := hD0.1 j (i + 327) _ _ hw hw2 hij
      omega
    · omega
  have hi1 : ∀ i, gA (jG G K) (i + 327) = gA K i := fun i => by
    show (if i + 327 < 327 then gA G (i + 327) else gA K (i + 327 - 327)) = gA K i
    rw [if_neg (by omega), show i + 327 - 327 = i by omega]
  have lo1 : ∀ j, j < 327 → gA (jG G K) j = gA G j := fun j hj => if_pos hj
  have at2 : ∀ j q, (wd (gK (jG G K)) (gA (jG G K)) (cellOf (jG G K) (jM mem m')))[j]? = some q → (j < 327 ∧ (wd (gK G) (gA G) (cellOf G mem))[j]? = some q) ∨ ∃ i, j = i + 327 ∧ (wd (gK K) (gA K) (cellOf K m'))[i]? = some q := by
    intro j q hq
    obtain ⟨hlt, rfl⟩ := wd_mem hq
    have hlt' : j < gK K + 327 := hlt
    by_cases hj : j < 327
    · refine Or.inl ⟨hj, ?_⟩
      rw [wd_at (by omega)]
      refine congrArg some (Prod.ext (lo1 j hj).symm ?_)
      show cellR G j (mem j) = cellR (jG G K) j (jM mem m' j)
      rw [jM_lo hj, jG_lo (hO j hj) hj]
    · obtain ⟨i, rfl⟩ : ∃ i, j = i + 327 := ⟨j - 327, by omega⟩
      refine Or.inr ⟨i, rfl, ?_⟩
      rw [wd_at (by omega)]
      refine congrArg some (Prod.ext (hi1 i).symm ?_)
      show cellR K i (m' i) = cellR (jG G K) (i + 327) (jM mem m' (i + 327))
      rw [jM_hi, jG_hi (G := G) (j := i) ec (by omega)]
  refine ⟨k, o, g1, g2, g3, ⟨⟨o1, jG G K, jM mem m', e1, ⟨K, m', e2, ec, rfl, rfl⟩, rfl, rfl, fun j q hq => ?_, ⟨fun i j p q hp hq e => ?_, fun j q hq => ?_⟩⟩, e4.1, fun q q1 q2 => e4.2 q q1 (fun z => q2 (fr q z))⟩, L, e5, fun q hq => fr _ (e6 q hq)⟩
  · rcases at2 j q hq with ⟨hj, h⟩ | ⟨i, -, h⟩
    · obtain ⟨a1, a2⟩ := lo j hj
      obtain ⟨-, rfl⟩ := wd_mem h
      exact (hP0 j _ h).kept (e4.2 _ (by rw [hsz]; exact a1) a2)
    · exact ep i q h
  · rcases at2 i p hp with ⟨hi, a⟩ | ⟨i', rfl, a⟩ <;> rcases at2 j q hq with ⟨hj, b⟩ | ⟨j', rfl, b⟩
    · exact hD0.1 i j p q a b e
    · obtain ⟨-, rfl⟩ := wd_mem a
      have := eD.2 j' q b
      rw [← e] at this
      exact absurd this (lo i hi).2
    · obtain ⟨-, rfl⟩ := wd_mem b
      have := eD.2 i' p a
      rw [e] at this
      exact absurd this (lo j hj).2
    · rw [eD.1 i' j' p q a b e]
  · rcases at2 j q hq with ⟨hj, h⟩ | ⟨i, -, h⟩
    · obtain ⟨-, rfl⟩ := wd_mem h
      exact Or.inl ⟨j, by omega, rfl⟩
    · exact fr _ (eD.2 i q h)
theorem Pm_L {sz : Nat} {s : State} {args : Array Value} (hA : args = As.toArray) (hsz : s.heap.size = sz) (hP : va_P (gD G) vwCl (wd (gK (gL G)) (gA (gL G)) (cellOf (gL G) mem)) s.heap) (hK : Kx G s) (hD : va_D (fun _ => True) (wd (gK (gL G)) (gA (gL G)) (cellOf (gL G) mem))) : va_Pc As (Pm (gL G) mem sz) args s := ⟨hA, hsz, hP, hK, hD⟩
/-- the first object's contract -/
theorem fr_L {P : Option Value → Mem → Prop} (hG : M2 G) (h : Ct l M (gL G) As mem P) : Ct l M G As mem (fun o m' => ∃ m1, P o m1 ∧ m' = jM m1 (sh mem)) := by
  intro sz p e ha hc hk1 s m args below hf h1 h2 h3
  obtain ⟨hA, hsz, hP0, hKx, hD0⟩ := h2
  have hk : gK G = 654 := hG.1
  have at1 : ∀ k q, (wd (gK (gL G)) (gA (gL G)) (cellOf (gL G) mem))[k]? = some q → (wd (gK G) (gA G) (cellOf G mem))[k]? = some q ∧ k < 327 := by
    intro k q hq
    obtain ⟨hlt, rfl⟩ := wd_mem hq
    have hlt' : k < 327 := hlt
    refine ⟨?_, hlt⟩
    rw [wd_at (by omega)]
    rfl
  have h2' : va_Pc As (Pm (gL G) mem sz) args s := Pm_L hA hsz (fun k q hq => hP0 k q (at1 k q hq).1) hKx ⟨fun i j p q hp hq e => hD0.1 i j p q (at1 i p hp).1 (at1 j q hq).1 e, fun _ _ _ => trivial⟩
  obtain ⟨k, o, g1, g2, g3, ⟨⟨⟨o1, K, m', e1, ⟨rfl, e2⟩, ed, ec, ep, eD⟩, e4⟩, L, e5, e6⟩⟩ := h sz p e ha hc hk1 s m args below hf h1 h2' h3
  have fr : ∀ q, Fr (gL G) sz q → Fr G sz q := by
    rintro q (⟨i, hi, rfl⟩ | hq)
    · have hi' : i < 327 := hi
      exact Or.inl ⟨i, by omega, rfl⟩
    · exact Or.inr hq
  have hi : ∀ j, 327 ≤ j → j < 654 → gA G j < sz ∧ ¬ Fr (gL G) sz (gA G j) := by
    intro j hj hj2
    have hw := wd_at (K := gK G) (ad := gA G) (ct := cellOf G mem) (j := j) (by omega)
    have lt : gA G j < s.heap.size := (hP0 j _ hw).lt
    refine ⟨by omega, ?_⟩
    rintro (⟨i, hi, hij⟩ | hq)
    · have hi' : i < 327 := hi
      have hw2 := wd_at (K := gK G) (ad := gA G) (ct := cellOf G mem) (j := i) (by omega)
      have := hD0.1 j i _ _ hw hw2 hij
      omega
    · omega
  have at2 : ∀ j q, (wd (gK G) (gA G) (cellOf G (jM m' (sh mem))))[j]? = some q → (327 ≤ j ∧ j < 654 ∧ (wd (gK G) (gA G) (cellOf G mem))[j]? = some q) ∨ (j < 327 ∧ (wd (gK (gL G)) (gA (gL G)) (cellOf (gL G) m'))[j]? = some q) := by
    intro j q hq
    obtain ⟨hlt, rfl⟩ := wd_mem hq
    by_cases hj : j < 327
    · refine Or.inr ⟨hj, ?_⟩
      have hj' : j < gK (gL G) := hj
      rw [wd_at hj']
      refine congrArg some (Prod.ext rfl ?_)
      show cellR (gL G) j (m' j) = cellR G j (jM m' (sh mem) j)
      rw [jM_lo hj]
      rfl
    · refine Or.inl ⟨by omega, by omega, ?_⟩
      rw [wd_at (by omega)]
      refine congrArg some (Prod.ext rfl ?_)
      show cellR G j (mem j) = cellR G j (jM m' (sh mem) j)
      have e : jM m' (sh mem) j = mem j := by
        show (if j < 327 then m' j else mem (j - 327 + 327)) = mem j
        rw [if_neg hj, show j - 327 + 327 = j by omega]
      rw [e]
  refine ⟨k, o, g1, g2, g3, ⟨⟨o1, G, jM m' (sh mem), e1, ⟨rfl, m', e2, rfl⟩, rfl, rfl, fun j q hq => ?_, ⟨fun i j p q hp hq e => ?_, fun j q hq => ?_⟩⟩, e4.1, fun q q1 q2 => e4.2 q q1 (fun z => q2 (fr q z))⟩, L, e5, fun q hq => fr _ (e6 q hq)⟩
  · rcases at2 j q hq with ⟨hj, hj2, h⟩ | ⟨-, h⟩
    · obtain ⟨a1, a2⟩ := hi j hj hj2
      obtain ⟨-, rfl⟩ := wd_mem h
      exact (hP0 j _ h).kept (e4.2 _ (by rw [hsz]; exact a1) a2)
    · exact ep j q h
  · rcases at2 i p hp with ⟨i1, i2, a⟩ | ⟨i1, a⟩ <;> rcases at2 j q hq with ⟨j1, j2, b⟩ | ⟨j1, b⟩
    · exact hD0.1 i j p q a b e
    · obtain ⟨-, rfl⟩ := wd_mem a
      have := eD.2 j q b
      rw [← e] at this
      exact absurd this (hi i i1 i2).2
    · obtain ⟨-, rfl⟩ := wd_mem b
      have := eD.2 i p a
      rw [e] at this
      exact absurd this (hi j j1 j2).2
    · exact eD.1 i j p q a b e
  · rcases at2 j q hq with ⟨hj, hj2, h⟩ | ⟨-, h⟩
    · obtain ⟨-, rfl⟩ := wd_mem h
      exact Or.inl ⟨j, by omega, rfl⟩
    · exact fr _ (eD.2 j q h)
theorem Mn_L (hG : M2 G) : Mn (gL G) := ⟨rfl, hG.2⟩
theorem Mn_R (hG : M2 G) : Mn (gR G 327) := ⟨rfl, fun j => hG.2 (j + 327)⟩
theorem jG_self (hG : M2 G) : jG G (gR G 327) = G := by
  have h1 : gK G = 654 := hG.1
  have e1 : (fun i => if i < 327 then gA G i else gA G (i - 327 + 327)) = gA G := by
    funext i
    by_cases c : i < 327
    · rw [if_pos c]
    · rw [if_neg c, show i - 327 + 327 = i by omega]
  have e2 : (fun i => if i < 327 then gO G i else gO G (i - 327 + 327)) = gO G := by
    funext i
    by_cases c : i < 327
    · rw [if_pos c]
    · rw [if_neg c, show i - 327 + 327 = i by omega]
  show (gD G, gC G, 327 + 327, (fun i => if i < 327 then gA G i else gA G (i - 327 + 327)), fun i => if i < 327 then gO G i else gO G (i - 327 + 327)) = G
  rw [e1, e2, show 327 + 327 = gK G by rw [h1]]
/-- a contract of the second object that makes no cells -/
theorem fr_R0 {P : Option Value → Mem → Prop} (hG : M2 G) (h : Ct l M (gR G 327) As (sh mem) P) : Ct l M G As mem (fun o m' => ∃ m1, P o m1 ∧ m' = jM mem m1) := by
  refine Ctg.mono (fr_R (kk := 327) (by rw [hG.1]) (by decide) (fun j _ => hG.2 j) h (fun o K m q => by rw [q.1]; exact Nat.le_refl 327)) ?_
  rintro o G' m' ⟨K, m1, ⟨rfl, h1⟩, -, rfl, rfl⟩
  exact ⟨jG_self hG, m1, h1, rfl⟩
/-- the states of both objects -/
def A2 (mem : Mem) (S T : Sta) : Prop := At mem S ∧ At (sh mem) T
variable {S S' T T' : Sta}
theorem At.lo (I : At m S) (h : ∀ j, j < 327 → m1 j = m j) : At m1 S := I.keep ⟨fun a q => h a (by omega), by rw [h 76 (by decide)]⟩
theorem Keep.at' {A : Prop} (I : At m S) (h : Keep m m1 ∧ A) : At m1 S ∧ A := ⟨I.keep h.1, h.2⟩
theorem two_L {P : Int32 → Prop} (hG : M2 G) (I : A2 mem S T) (h : CtI l M (gL G) (.ref (gA G 0) :: As) mem (fun r m => P r ∧ At m S')) : CtI l M G (.ref (gA G 0) :: As) mem (fun r m => P r ∧ A2 m S' T) := by
  refine Ctg.mono (fr_L hG h) ?_
  rintro o G' m' ⟨rfl, m1, ⟨r, rfl, h1, h2⟩, rfl⟩
  refine ⟨rfl, r, rfl, h1, h2.lo (fun j hj => jM_lo hj), ?_⟩
  rw [sh_jM]
  exact I.2
theorem two_R {P : Int32 → Prop} (hG : M2 G) (I : A2 mem S T) (h : CtI l M (gR G 327) (.ref (gA G 327) :: As) (sh mem) (fun r m => P r ∧ At m T')) : CtI l M G (.ref (gA G 327) :: As) mem (fun r m => P r ∧ A2 m S T') := by
  refine Ctg.mono (fr_R0 hG h) ?_
  rintro o G' m' ⟨rfl, m1, ⟨r, rfl, h1, h2⟩, rfl⟩
  refine ⟨rfl, r, rfl, h1, I.1.lo (fun j hj => jM_lo hj), ?_⟩
  rw [sh_jM]
  exact h2
theorem two_LL {P : Int64 → Prop} (hG : M2 G) (I : A2 mem S T) (h : CtL l M (gL G) (.ref (gA G 0) :: As) mem (fun r m => P r ∧ At m S')) : CtL l M G (.ref (gA G 0) :: As) mem (fun r m => P r ∧ A2 m S' T) := by
  refine Ctg.mono (fr_L hG h) ?_
  rintro o G' m' ⟨rfl, m1, ⟨r, rfl, h1, h2⟩, rfl⟩
  refine ⟨rfl, r, rfl, h1, h2.lo (fun j hj => jM_lo hj), ?_⟩
  rw [sh_jM]
  exact I.2
theorem two_RL {P : Int64 → Prop} (hG : M2 G) (I : A2 mem S T) (h : CtL l M (gR G 327) (.ref (gA G 327) :: As) (sh mem) (fun r m => P r ∧ At m T')) : CtL l M G (.ref (gA G 327) :: As) mem (fun r m => P r ∧ A2 m S T') := by
  refine Ctg.mono (fr_R0 hG h) ?_
  rintro o G' m' ⟨rfl, m1, ⟨r, rfl, h1, h2⟩, rfl⟩
  refine ⟨rfl, r, rfl, h1, I.1.lo (fun j hj => jM_lo hj), ?_⟩
  rw [sh_jM]
  exact h2
end TW
