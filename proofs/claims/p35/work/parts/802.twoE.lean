/-! the same for contracts that need the law's string and script -/
theorem Ex.nar {q : E5} {A B : Nat → Prop} {U : State} {H : Heap} (h : Ex q A U H) (hB : ∀ q, B q → A q) : Ex q B U H :=
  ⟨h.1, h.2.1.narrow hB, h.2.2.1.narrow hB, h.2.2.2.1.narrow hB, h.2.2.2.2.1, h.2.2.2.2.2.1, fun z => h.2.2.2.2.2.2 (hB _ z)⟩
section TW
variable {l : Launch} {M : MTy} {G K : Gx} {mc ms : Nat} {As : List Value} {mem m m1 : Mem} {kk : Nat} {q : E5} {S S' T T' : Sta}
theorem fr_RE {q5 : E5} {P : Option Value → Gx → Mem → Prop} (hk : gK G = kk + 327) (hk2 : kk ≤ 327) (hO : ∀ j, j < 327 → gO G j = none) (h : ∀ sz : Nat, Met l M.1 (wsM M) M.2.2.2.2 (va_Pc As (fun U => Pm (gR G kk) (sh mem) sz U ∧ Ex q5 (Fr (gR G kk) sz) U U.heap)) (Qm (gR G kk) P sz) mc ms (Fr (gR G kk) sz)) (hP : ∀ o K m, P o K m → gK K ≤ 327) : ∀ sz : Nat, Met l M.1 (wsM M) M.2.2.2.2 (va_Pc As (fun U => Pm G mem sz U ∧ Ex q5 (Fr G sz) U U.heap)) (Qm G (fun o G' m' => ∃ K m1, P o K m1 ∧ gC K = gC G ∧ G' = jG G K ∧ m' = jM mem m1) sz) mc ms (Fr G sz) := by
  intro sz p e ha hc hk1 s m args below hf h1 h2 h3
  obtain ⟨hA, ⟨hsz, hP0, hKx, hD0⟩, hE⟩ := h2
  have at1 : ∀ k q, (wd (gK (gR G kk)) (gA (gR G kk)) (cellOf (gR G kk) (sh mem)))[k]? = some q → (wd (gK G) (gA G) (cellOf G mem))[k + 327]? = some q ∧ k < gK (gR G kk) := by
    intro k q hq
    obtain ⟨hlt, rfl⟩ := wd_mem hq
    have hlt' : k < kk := hlt
    refine ⟨?_, hlt⟩
    rw [wd_at (by omega)]
    refine congrArg some (Prod.ext rfl ?_)
    exact cR_hi (by omega)
  have fr : ∀ q, Fr (gR G kk) sz q → Fr G sz q := by
    rintro q (⟨i, hi, rfl⟩ | hq)
    · have hi' : i < kk := hi
      exact Or.inl ⟨i + 327, by omega, rfl⟩
    · exact Or.inr hq
  have h2'' : va_Pc As (Pm (gR G kk) (sh mem) sz) args s := Pm_R (ct := fun _ => .inl ((gC G).1, 0, .inl (fun _ => 0))) hA hsz (fun k q hq => hP0 (k + 327) q (at1 k q hq).1) hKx ⟨fun i j p q hp hq e => by
    have := hD0.1 (i + 327) (j + 327) p q (at1 i p hp).1 (at1 j q hq).1 e
    omega, fun _ _ _ => trivial⟩
  have h2' : va_Pc As (fun U => Pm (gR G kk) (sh mem) sz U ∧ Ex q5 (Fr (gR G kk) sz) U U.heap) args s := ⟨h2''.1, h2''.2, hE.nar fr⟩
  obtain ⟨k, o, g1, g2, g3, ⟨⟨⟨o1, K, m', e1, e2, ed, ec, ep, eD⟩, e4⟩, L, e5, e6⟩⟩ := h sz p e ha hc hk1 s m args below hf h1 h2' h3
  have kl := hP _ _ _ e2
  -- the first object's cells stay as they were
  have lo : ∀ j, j < 327 → gA G j < sz ∧ ¬ Fr (gR G kk) sz (gA G j) := by
    intro j hj
    have hw := wd_at (K := gK G) (ad := gA G) (ct := cellOf G mem) (j := j) (by omega)
    have lt : gA G j < s.heap.size := (hP0 j _ hw).lt
    refine ⟨by omega, ?_⟩
    rintro (⟨i, hi, hij⟩ | hq)
    · have hi' : i < kk := hi
      have hw2 := wd_at (K := gK G) (ad := gA G) (ct := cellOf G mem) (j := i + 327) (by omega)
      have := hD0.1 j (i + 327) _ _ hw hw2 hij
      omega
    · omega
  have hi1 : ∀ i, gA (jG G K) (i + 327) = gA K i := fun i => by
    show (if i + 327 < 327 then gA G (i + 327) else gA K (i + 327 - 327)) = gA K i
    rw [if_neg (by omega), show i + 327 - 327 = i by omega]
  have lo1 : ∀ j, j < 327 → gA (jG G K) j = gA G j := fun j hj => if_pos hj
  have at2 : ∀ j q, (wd (gK (jG G K)) (gA (jG G K)) (cellOf (jG G K) (jM mem m')))[j]? = some q → (j < 327 ∧ (wd (gK G) (gA G) (cellOf G mem))[j]? = some q) ∨ ∃ i, j = i + 327 ∧ (wd (gK K) (gA K) (cellOf K m'))[i]? = some q := by
    intro j q hq
    obtain ⟨hlt, rfl⟩ := wd_mem hq
    have hlt' : j < gK K + 327 := hlt
    by_cases hj : j < 327
    · refine Or.inl ⟨hj, ?_⟩
      rw [wd_at (by omega)]
      refine congrArg some (Prod.ext (lo1 j hj).symm ?_)
      show cellR G j (mem j) = cellR (jG G K) j (jM mem m' j)
      rw [jM_lo hj, jG_lo (hO j hj) hj]
    · obtain ⟨i, rfl⟩ : ∃ i, j = i + 327 := ⟨j - 327, by omega⟩
      refine Or.inr ⟨i, rfl, ?_⟩
      rw [wd_at (by omega)]
      refine congrArg some (Prod.ext (hi1 i).symm ?_)
      show cellR K i (m' i) = cellR (jG G K) (i + 327) (jM mem m' (i + 327))
      rw [jM_hi, jG_hi (G := G) (j := i) ec (by omega)]
  refine ⟨k, o, g1, g2, g3, ⟨⟨o1, jG G K, jM mem m', e1, ⟨K, m', e2, ec, rfl, rfl⟩, rfl, rfl, fun j q hq => ?_, ⟨fun i j p q hp hq e => ?_, fun j q hq => ?_⟩⟩, e4.1, fun q q1 q2 => e4.2 q q1 (fun z => q2 (fr q z))⟩, L, e5, fun q hq => fr _ (e6 q hq)⟩
  · rcases at2 j q hq with ⟨hj, h⟩ | ⟨i, -, h⟩
    · obtain ⟨a1, a2⟩ := lo j hj
      obtain ⟨-, rfl⟩ := wd_mem h
      exact (hP0 j _ h).kept (e4.2 _ (by rw [hsz]; exact a1) a2)
    · exact ep i q h
  · rcases at2 i p hp with ⟨hi, a⟩ | ⟨i', rfl, a⟩ <;> rcases at2 j q hq with ⟨hj, b⟩ | ⟨j', rfl, b⟩
    · exact hD0.1 i j p q a b e
    · obtain ⟨-, rfl⟩ := wd_mem a
      have := eD.2 j' q b
      rw [← e] at this
      exact absurd this (lo i hi).2
    · obtain ⟨-, rfl⟩ := wd_mem b
      have := eD.2 i' p a
      rw [e] at this
      exact absurd this (lo j hj).2
    · rw [eD.1 i' j' p q a b e]
  · rcases at2 j q hq with ⟨hj, h⟩ | ⟨i, -, h⟩
    · obtain ⟨-, rfl⟩ := wd_mem h
      exact Or.inl ⟨j, by omega, rfl⟩
    · exact fr _ (eD.2 i q h)
theorem fr_LE {q5 : E5} {P : Option Value → Mem → Prop} (hG : M2 G) (h : CtE l M q5 (gL G) As mem P) : CtE l M q5 G As mem (fun o m' => ∃ m1, P o m1 ∧ m' = jM m1 (sh mem)) := by
  intro sz p e ha hc hk1 s m args below hf h1 h2 h3
  obtain ⟨hA, ⟨hsz, hP0, hKx, hD0⟩, hE⟩ := h2
  have hk : gK G = 654 := hG.1
  have at1 : ∀ k q, (wd (gK (gL G)) (gA (gL G)) (cellOf (gL G) mem))[k]? = some q → (wd (gK G) (gA G) (cellOf G mem))[k]? = some q ∧ k < 327 := by
    intro k q hq
    obtain ⟨hlt, rfl⟩ := wd_mem hq
    have hlt' : k < 327 := hlt
    refine ⟨?_, hlt⟩
    rw [wd_at (by omega)]
    rfl
  have fr : ∀ q, Fr (gL G) sz q → Fr G sz q := by
    rintro q (⟨i, hi, rfl⟩ | hq)
    · have hi' : i < 327 := hi
      exact Or.inl ⟨i, by omega, rfl⟩
    · exact Or.inr hq
  have h2'' : va_Pc As (Pm (gL G) mem sz) args s := Pm_L hA hsz (fun k q hq => hP0 k q (at1 k q hq).1) hKx ⟨fun i j p q hp hq e => hD0.1 i j p q (at1 i p hp).1 (at1 j q hq).1 e, fun _ _ _ => trivial⟩
  have h2' : va_Pc As (fun U => Pm (gL G) mem sz U ∧ Ex q5 (Fr (gL G) sz) U U.heap) args s := ⟨h2''.1, h2''.2, hE.nar fr⟩
  obtain ⟨k, o, g1, g2, g3, ⟨⟨⟨o1, K, m', e1, ⟨rfl, e2⟩, ed, ec, ep, eD⟩, e4⟩, L, e5, e6⟩⟩ := h sz p e ha hc hk1 s m args below hf h1 h2' h3
  have hi : ∀ j, 327 ≤ j → j < 654 → gA G j < sz ∧ ¬ Fr (gL G) sz (gA G j) := by
    intro j hj hj2
    have hw := wd_at (K := gK G) (ad := gA G) (ct := cellOf G mem) (j := j) (by omega)
    have lt : gA G j < s.heap.size := (hP0 j _ hw).lt
    refine ⟨by omega, ?_⟩
    rintro (⟨i, hi, hij⟩ | hq)
    · have hi' : i < 327 := hi
      have hw2 := wd_at (K := gK G) (ad := gA G) (ct := cellOf G mem) (j := i) (by omega)
      have := hD0.1 j i _ _ hw hw2 hij
      omega
    · omega
  have at2 : ∀ j q, (wd (gK G) (gA G) (cellOf G (jM m' (sh mem))))[j]? = some q → (327 ≤ j ∧ j < 654 ∧ (wd (gK G) (gA G) (cellOf G mem))[j]? = some q) ∨ (j < 327 ∧ (wd (gK (gL G)) (gA (gL G)) (cellOf (gL G) m'))[j]? = some q) := by
    intro j q hq
    obtain ⟨hlt, rfl⟩ := wd_mem hq
    by_cases hj : j < 327
    · refine Or.inr ⟨hj, ?_⟩
      have hj' : j < gK (gL G) := hj
      rw [wd_at hj']
      refine congrArg some (Prod.ext rfl ?_)
      show cellR (gL G) j (m' j) = cellR G j (jM m' (sh mem) j)
      rw [jM_lo hj]
      rfl
    · refine Or.inl ⟨by omega, by omega, ?_⟩
      rw [wd_at (by omega)]
      refine congrArg some (Prod.ext rfl ?_)
      show cellR G j (mem j) = cellR G j (jM m' (sh mem) j)
      have e : jM m' (sh mem) j = mem j := by
        show (if j < 327 then m' j else mem (j - 327 + 327)) = mem j
        rw [if_neg hj, show j - 327 + 327 = j by omega]
      rw [e]
  refine ⟨k, o, g1, g2, g3, ⟨⟨o1, G, jM m' (sh mem), e1, ⟨rfl, m', e2, rfl⟩, rfl, rfl, fun j q hq => ?_, ⟨fun i j p q hp hq e => ?_, fun j q hq => ?_⟩⟩, e4.1, fun q q1 q2 => e4.2 q q1 (fun z => q2 (fr q z))⟩, L, e5, fun q hq => fr _ (e6 q hq)⟩
  · rcases at2 j q hq with ⟨hj, hj2, h⟩ | ⟨-, h⟩
    · obtain ⟨a1, a2⟩ := hi j hj hj2
      obtain ⟨-, rfl⟩ := wd_mem h
      exact (hP0 j _ h).kept (e4.2 _ (by rw [hsz]; exact a1) a2)
    · exact ep j q h
  · rcases at2 i p hp with ⟨i1, i2, a⟩ | ⟨i1, a⟩ <;> rcases at2 j q hq with ⟨j1, j2, b⟩ | ⟨j1, b⟩
    · exact hD0.1 i j p q a b e
    · obtain ⟨-, rfl⟩ := wd_mem a
      have := eD.2 j q b
      rw [← e] at this
      exact absurd this (hi i i1 i2).2
    · obtain ⟨-, rfl⟩ := wd_mem b
      have := eD.2 i p a
      rw [e] at this
      exact absurd this (hi j j1 j2).2
    · exact eD.1 i j p q a b e
  · rcases at2 j q hq with ⟨hj, hj2, h⟩ | ⟨-, h⟩
    · obtain ⟨-, rfl⟩ := wd_mem h
      exact Or.inl ⟨j, by omega, rfl⟩
    · exact fr _ (eD.2 j q h)
theorem fr_R0E {P : Option Value → Mem → Prop} (hG : M2 G) (h : CtE l M q (gR G 327) As (sh mem) P) : CtE l M q G As mem (fun o m' => ∃ m1, P o m1 ∧ m' = jM mem m1) := by
  have h0 := fr_RE (kk := 327) (by rw [hG.1]) (by decide) (fun j _ => hG.2 j) (P := fun o K m' => K = gR G 327 ∧ P o m') h (fun o K m q => by rw [q.1]; exact Nat.le_refl 327)
  intro sz p e ha hc hk s m args below hf h1 h2 h3
  obtain ⟨k, o, g1, g2, g3, ⟨⟨⟨o1, G', m', e1, ⟨K, m1, ⟨rfl, e2⟩, -, rfl, rfl⟩, e3⟩, e4⟩, e5⟩⟩ := h0 sz p e ha hc hk s m args below hf h1 h2 h3
  exact ⟨k, o, g1, g2, g3, ⟨⟨⟨o1, jG G (gR G 327), _, e1, ⟨jG_self hG, m1, e2, rfl⟩, e3⟩, e4⟩, e5⟩⟩
theorem two_LE {P : Int32 → Prop} (hG : M2 G) (I : A2 mem S T) (h : CeI l M q (gL G) (.ref (gA G 0) :: As) mem (fun r m => P r ∧ At m S')) : CeI l M q G (.ref (gA G 0) :: As) mem (fun r m => P r ∧ A2 m S' T) := by
  refine CtE.mono (fr_LE hG h) ?_
  rintro o m' ⟨m1, ⟨r, rfl, h1, h2⟩, rfl⟩
  refine ⟨r, rfl, h1, h2.lo (fun j hj => jM_lo hj), ?_⟩
  rw [sh_jM]
  exact I.2
theorem two_RE {P : Int32 → Prop} (hG : M2 G) (I : A2 mem S T) (h : CeI l M q (gR G 327) (.ref (gA G 327) :: As) (sh mem) (fun r m => P r ∧ At m T')) : CeI l M q G (.ref (gA G 327) :: As) mem (fun r m => P r ∧ A2 m S T') := by
  refine CtE.mono (fr_R0E hG h) ?_
  rintro o m' ⟨m1, ⟨r, rfl, h1, h2⟩, rfl⟩
  refine ⟨r, rfl, h1, I.1.lo (fun j hj => jM_lo hj), ?_⟩
  rw [sh_jM]
  exact h2
end TW
