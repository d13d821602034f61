/-! an object under making: its own cell, the cells made since; when it is whole its cells are the shape's -/
theorem cF_cong {cs : ClassId × ClassId × ClassId × ClassId} {ad ad' : Nat → Nat} {b i : Nat} {r : Nat → Int32} (h : ∀ k, k < 15 → ad (b + k) = ad' (b + k)) : cF cs ad b i r = cF cs ad' b i r := by
  unfold cF
  rw [h 1 (by decide), h 2 (by decide)]
  have e : (fun k => if k < 12 then some (ad (b + 3 + k)) else none) = (fun k => if k < 12 then some (ad' (b + 3 + k)) else none) := by
    funext k
    by_cases c : k < 12
    · rw [if_pos c, if_pos c, Nat.add_assoc, h (3 + k) (by omega)]
    · rw [if_neg c, if_neg c]
  rw [e]
theorem row_cong {ad ad' : Nat → Nat} {n b s : Nat} (h : ∀ k, k < n → ad (b + s * k) = ad' (b + s * k)) : (fun k => if k < n then some (ad (b + s * k)) else none) = (fun k => if k < n then some (ad' (b + s * k)) else none) := by
  funext k
  by_cases c : k < n
  · rw [if_pos c, if_pos c, h k c]
  · rw [if_neg c, if_neg c]
theorem row_cong1 {ad ad' : Nat → Nat} {n b : Nat} (h : ∀ k, k < n → ad (b + k) = ad' (b + k)) : (fun k => if k < n then some (ad (b + k)) else none) = (fun k => if k < n then some (ad' (b + k)) else none) := by
  funext k
  by_cases c : k < n
  · rw [if_pos c, if_pos c, h k c]
  · rw [if_neg c, if_neg c]
theorem cS_cong {cs : ClassId × ClassId × ClassId × ClassId} {ad ad' : Nat → Nat} {f b i : Nat} {r : Nat → Int32} (hf : ad f = ad' f) (h : ∀ k, k < 14 → ad (b + k) = ad' (b + k)) : cS cs ad f b i r = cS cs ad' f b i r := by
  unfold cS
  have e : (fun k => if k < 12 then some (ad (b + 2 + k)) else none) = (fun k => if k < 12 then some (ad' (b + 2 + k)) else none) := row_cong1 (fun k hk => by rw [Nat.add_assoc]; exact h (2 + k) (by omega))
  rw [hf, h 1 (by decide), e]
theorem cC_cong {cs : ClassId × ClassId × ClassId × ClassId} {ad ad' : Nat → Nat} {j : Nat} {r : Nat → Int32} (h : ∀ k, k < 76 → ad k = ad' k) : cC cs ad j r = cC cs ad' j r := by
  unfold cC
  have e : (fun k => if k < 12 then some (ad (64 + k)) else none) = (fun k => if k < 12 then some (ad' (64 + k)) else none) := row_cong1 (fun k hk => h _ (by omega))
  rw [h 60 (by decide), h 61 (by decide), h 62 (by decide), h 63 (by decide), e]
theorem cT_cong {cs : ClassId × ClassId × ClassId × ClassId} {ad ad' : Nat → Nat} {j : Nat} {r : Nat → Int32} (hj : 76 ≤ j) (h : ∀ k, k < 79 → ad k = ad' k) (h2 : 79 ≤ j → ∀ k, k < 291 → ad k = ad' k) : cT cs ad j r = cT cs ad' j r := by
  unfold cT
  by_cases c : 79 ≤ j
  · have h := h2 c
    have e : (fun k => if k < 14 then some (ad (81 + 15 * k)) else none) = (fun k => if k < 14 then some (ad' (81 + 15 * k)) else none) := row_cong (fun k hk => h _ (by omega))
    rw [h 77 (by decide), h 78 (by decide), h 80 (by decide), e]
  · rw [h 77 (by decide), h 78 (by decide)]
    by_cases c1 : j = 76
    · rw [if_pos c1, if_pos c1]
    · rw [if_neg c1, if_neg c1]
      by_cases c2 : j = 77
      · rw [if_pos c2, if_pos c2]
      · rw [if_neg c2, if_neg c2]
        have c3 : j = 78 := by omega
        rw [if_pos c3, if_pos c3]
theorem cO_cong {cs : ClassId × ClassId × ClassId × ClassId} {ad ad' : Nat → Nat} {j : Nat} {r : Nat → Int32} (hj : 291 ≤ j) (h : ∀ k, k < 295 → ad k = ad' k) (h2 : 295 ≤ j → ∀ k, k < 326 → ad k = ad' k) : cO cs ad j r = cO cs ad' j r := by
  unfold cO
  rw [h 292 (by decide), h 293 (by decide), h 294 (by decide)]
  by_cases c1 : j = 291
  · rw [if_pos c1, if_pos c1]
  · rw [if_neg c1, if_neg c1]
    by_cases c2 : j = 295
    · have h := h2 (by omega)
      have e : (fun k => if k < 2 then some (ad (296 + 15 * k)) else none) = (fun k => if k < 2 then some (ad' (296 + 15 * k)) else none) := row_cong (fun k hk => h _ (by omega))
      rw [if_pos c2, if_pos c2, e]
    · rw [if_neg c2, if_neg c2]
theorem cl0 {cs : ClassId × ClassId × ClassId × ClassId} {ad ad' : Nat → Nat} {j : Nat} {r : Nat → Int32} (h : ∀ k, k < 327 → ad k = ad' k) : cell0 cs ad j r = cell0 cs ad' j r := by
  unfold cell0
  by_cases c0 : j = 0
  · rw [if_pos c0, if_pos c0, h 1 (by decide), h 16 (by decide), h 30 (by decide), h 45 (by decide), h 59 (by decide), h 76 (by decide), h 79 (by decide), h 291 (by decide), h 295 (by decide), h 326 (by decide)]
  rw [if_neg c0, if_neg c0]
  by_cases c1 : j < 16
  · rw [if_pos c1, if_pos c1]
    exact cF_cong (fun k hk => h _ (by omega))
  rw [if_neg c1, if_neg c1]
  by_cases c2 : j < 30
  · rw [if_pos c2, if_pos c2]
    exact cS_cong (h 1 (by decide)) (fun k hk => h _ (by omega))
  rw [if_neg c2, if_neg c2]
  by_cases c3 : j < 45
  · rw [if_pos c3, if_pos c3]
    exact cF_cong (fun k hk => h _ (by omega))
  rw [if_neg c3, if_neg c3]
  by_cases c4 : j < 59
  · rw [if_pos c4, if_pos c4]
    exact cS_cong (h 30 (by decide)) (fun k hk => h _ (by omega))
  rw [if_neg c4, if_neg c4]
  by_cases c5 : j < 76
  · rw [if_pos c5, if_pos c5]
    exact cC_cong (fun k hk => h _ (by omega))
  rw [if_neg c5, if_neg c5]
  by_cases c6 : j < 81
  · rw [if_pos c6, if_pos c6]
    exact cT_cong (by omega) (fun k hk => h _ (by omega)) (fun _ k hk => h _ (by omega))
  rw [if_neg c6, if_neg c6]
  by_cases c7 : j < 291
  · rw [if_pos c7, if_pos c7]
    exact cF_cong (fun k hk => h _ (by omega))
  rw [if_neg c7, if_neg c7]
  by_cases c8 : j < 296
  · rw [if_pos c8, if_pos c8]
    exact cO_cong (by omega) (fun k hk => h _ (by omega)) (fun _ k hk => h _ (by omega))
  rw [if_neg c8, if_neg c8]
  by_cases c9 : j < 326
  · rw [if_pos c9, if_pos c9]
    exact cF_cong (fun k hk => h _ (by omega))
  rw [if_neg c9, if_neg c9]
/-- the first object's cells; the second one's -/
theorem c_lo {cs : ClassId × ClassId × ClassId × ClassId} {ad : Nat → Nat} {j : Nat} {r : Nat → Int32} (hj : j < 327) : cellAt cs ad j r = cell0 cs ad j r := by
  unfold cellAt cell0
  by_cases c0 : j = 0
  · rw [if_pos c0, if_pos c0]
  rw [if_neg c0, if_neg c0]
  by_cases c1 : j < 16
  · rw [if_pos c1, if_pos c1]
  rw [if_neg c1, if_neg c1]
  by_cases c2 : j < 30
  · rw [if_pos c2, if_pos c2]
  rw [if_neg c2, if_neg c2]
  by_cases c3 : j < 45
  · rw [if_pos c3, if_pos c3]
  rw [if_neg c3, if_neg c3]
  by_cases c4 : j < 59
  · rw [if_pos c4, if_pos c4]
  rw [if_neg c4, if_neg c4]
  by_cases c5 : j < 76
  · rw [if_pos c5, if_pos c5]
  rw [if_neg c5, if_neg c5]
  by_cases c6 : j < 81
  · rw [if_pos c6, if_pos c6]
  rw [if_neg c6, if_neg c6]
  by_cases c7 : j < 291
  · rw [if_pos c7, if_pos c7]
  rw [if_neg c7, if_neg c7]
  by_cases c8 : j < 296
  · rw [if_pos c8, if_pos c8]
  rw [if_neg c8, if_neg c8]
  by_cases c9 : j < 326
  · rw [if_pos c9, if_pos c9]
  rw [if_neg c9, if_neg c9]
  rw [if_pos (show j = 326 by omega)]
theorem c_hi {cs : ClassId × ClassId × ClassId × ClassId} {ad : Nat → Nat} {i : Nat} {r : Nat → Int32} : cellAt cs ad (i + 327) r = cell0 cs (fun k => ad (k + 327)) i r := by
  unfold cellAt
  rw [if_neg (by omega), if_neg (by omega), if_neg (by omega), if_neg (by omega), if_neg (by omega), if_neg (by omega), if_neg (by omega), if_neg (by omega), if_neg (by omega), if_neg (by omega), if_neg (by omega), show i + 327 - 327 = i by omega]
  rw [show (fun k => ad (k + 327)) = (fun k => ad (327 + k)) from funext (fun k => by rw [Nat.add_comm])]
/-- behind the last cell that the object of the cell j speaks of -/
def top (j : Nat) : Nat := if j = 0 then 327 else if j < 16 then 16 else if j < 30 then 30 else if j < 45 then 45 else if j < 59 then 59 else if j < 76 then 76 else if j < 79 then 79 else if j < 81 then 291 else if j < 291 then 81 + 15 * ((j - 81) / 15) + 15 else if j < 295 then 295 else if j = 295 then 326 else if j < 326 then 296 + 15 * ((j - 296) / 15) + 15 else if j = 326 then 327 else 654
theorem cl_all {cs : ClassId × ClassId × ClassId × ClassId} {ad ad' : Nat → Nat} {j : Nat} {r : Nat → Int32} (h : ∀ k, k < top j → ad k = ad' k) : cellAt cs ad j r = cellAt cs ad' j r := by
  unfold top at h
  unfold cellAt
  by_cases c0 : j = 0
  · rw [if_pos c0] at h
    rw [if_pos c0, if_pos c0, h 1 (by decide), h 16 (by decide), h 30 (by decide), h 45 (by decide), h 59 (by decide), h 76 (by decide), h 79 (by decide), h 291 (by decide), h 295 (by decide), h 326 (by decide)]
  rw [if_neg c0] at h
  rw [if_neg c0, if_neg c0]
  by_cases c1 : j < 16
  · rw [if_pos c1] at h
    rw [if_pos c1, if_pos c1]
    exact cF_cong (fun k hk => h _ (by omega))
  rw [if_neg c1] at h
  rw [if_neg c1, if_neg c1]
  by_cases c2 : j < 30
  · rw [if_pos c2] at h
    rw [if_pos c2, if_pos c2]
    exact cS_cong (h 1 (by decide)) (fun k hk => h _ (by omega))
  rw [if_neg c2] at h
  rw [if_neg c2, if_neg c2]
  by_cases c3 : j < 45
  · rw [if_pos c3] at h
    rw [if_pos c3, if_pos c3]
    exact cF_cong (fun k hk => h _ (by omega))
  rw [if_neg c3] at h
  rw [if_neg c3, if_neg c3]
  by_cases c4 : j < 59
  · rw [if_pos c4] at h
    rw [if_pos c4, if_pos c4]
    exact cS_cong (h 30 (by decide)) (fun k hk => h _ (by omega))
  rw [if_neg c4] at h
  rw [if_neg c4, if_neg c4]
  by_cases c5 : j < 76
  · rw [if_pos c5] at h
    rw [if_pos c5, if_pos c5]
    exact cC_cong h
  rw [if_neg c5] at h
  rw [if_neg c5, if_neg c5]
  by_cases c6 : j < 81
  · rw [if_pos c6, if_pos c6]
    by_cases c6' : j < 79
    · rw [if_pos c6'] at h
      exact cT_cong (by omega) h (fun z => by omega)
    · rw [if_neg c6', if_pos c6] at h
      exact cT_cong (by omega) (fun k hk => h k (by omega)) (fun _ => h)
  rw [if_neg (show ¬ j < 79 by omega), if_neg c6] at h
  rw [if_neg c6, if_neg c6]
  by_cases c7 : j < 291
  · rw [if_pos c7] at h
    rw [if_pos c7, if_pos c7]
    exact cF_cong (fun k hk => h _ (by omega))
  rw [if_neg c7] at h
  rw [if_neg c7, if_neg c7]
  by_cases c8 : j < 296
  · rw [if_pos c8, if_pos c8]
    by_cases c8' : j < 295
    · rw [if_pos c8'] at h
      exact cO_cong (by omega) h (fun z => by omega)
    · rw [if_neg c8', if_pos (by omega)] at h
      exact cO_cong (by omega) (fun k hk => h k (by omega)) (fun _ => h)
  rw [if_neg (show ¬ j < 295 by omega), if_neg (show ¬ j = 295 by omega)] at h
  rw [if_neg c8, if_neg c8]
  by_cases c9 : j < 326
  · rw [if_pos c9] at h
    rw [if_pos c9, if_pos c9]
    exact cF_cong (fun k hk => h _ (by omega))
  rw [if_neg c9] at h
  rw [if_neg c9, if_neg c9]
  by_cases c10 : j = 326
  · rw [if_pos c10, if_pos c10]
  rw [if_neg c10] at h
  rw [if_neg c10, if_neg c10]
  exact cl0 (fun k hk => h (327 + k) (by omega))
/-- under making: from the world G, whose last cell is b, n cells more, of the contents cc at the addresses aa; b has the content ct -/
def Bd (G Gn : Gx) (b n : Nat) (ct : va_E) (cc : Nat → va_E) (aa : Nat → Nat) : Prop := (gD Gn = gD G ∧ gC Gn = gC G) ∧ gK Gn = b + 1 + n ∧ (∀ i, i ≤ b → gA Gn i = gA G i) ∧ (∀ i, i < b → gO Gn i = gO G i) ∧ gO Gn b = some ct ∧ Cl Gn ∧ ∀ i, b < i → i < b + 1 + n → gO Gn i = some (cc i) ∧ gA Gn i = aa i
section BD
variable {G Gn : Gx} {b n : Nat} {ct e : va_E} {cc : Nat → va_E} {aa : Nat → Nat} {q : Nat} {mem : Mem}
theorem Bd.nil (hK : gK G = b + 1) (hO : gO G b = some ct) (hCl : Cl G) (cc : Nat → va_E) (aa : Nat → Nat) : Bd G G b 0 ct cc aa := ⟨⟨rfl, rfl⟩, hK, fun _ _ => rfl, fun _ _ => rfl, hO, hCl, fun i h1 h2 => by omega⟩
theorem Bd.a (h : Bd G Gn b n ct cc aa) : gA Gn b = gA G b := h.2.2.1 b (Nat.le_refl _)
theorem Bd.k (h : Bd G Gn b n ct cc aa) : b < gK Gn := by rw [h.2.1]; omega
theorem Bd.o (h : Bd G Gn b n ct cc aa) : gO Gn b = some ct := h.2.2.2.2.1
theorem Bd.cl (h : Bd G Gn b n ct cc aa) : Cl Gn := h.2.2.2.2.2.1
theorem Bd.put (h : Bd G Gn b n ct cc aa) (q : Nat) (e : va_E) : Bd G (gPut Gn q e) b (n + 1) ct (va_up cc (b + 1 + n) e) (va_up aa (b + 1 + n) q) := by
  obtain ⟨h1, h2, h3, h4, h5, h6, h7⟩ := h
  have eK : gK (gPut Gn q e) = gK Gn + 1 := rfl
  have eA : ∀ i, gA (gPut Gn q e) i = if i = gK Gn then q else gA Gn i := fun _ => rfl
  have eO : ∀ i, gO (gPut Gn q e) i = if i = gK Gn then some e else gO Gn i := fun _ => rfl
  refine ⟨h1, by rw [eK, h2]; omega, fun i hi => by rw [eA, if_neg (by omega)]; exact h3 i hi, fun i hi => by rw [eO, if_neg (by omega)]; exact h4 i hi, by rw [eO, if_neg (by omega)]; exact h5, h6.put, fun i hi hi2 => ?_⟩
  rw [eA, eO, h2]
  unfold va_up
  by_cases c : i = b + 1 + n
  · rw [if_pos c, if_pos c, if_pos c, if_pos c]; exact ⟨rfl, rfl⟩
  · rw [if_neg c, if_neg c, if_neg c, if_neg c]; exact h7 i hi (by omega)
theorem Bd.set (h : Bd G Gn b n ct cc aa) (e : va_E) : Bd G (gSet Gn b e) b n e cc aa := by
  obtain ⟨h1, h2, h3, h4, h5, h6, h7⟩ := h
  have eO : ∀ i, gO (gSet Gn b e) i = if i = b then some e else gO Gn i := fun _ => rfl
  refine ⟨h1, h2, h3, fun i hi => by rw [eO, if_neg (by omega)]; exact h4 i hi, by rw [eO, if_pos rfl], h6.set, fun i hi hi2 => ?_⟩
  rw [eO, if_neg (by omega)]
  exact h7 i hi hi2
theorem Bd.grid (h : Bd G Gn b n ct cc aa) (q : Nat) : Bd G (gGrid Gn q) b (n + 13) ct (fun i => if i < b + 1 + n then cc i else if i = b + 1 + n then rR (gC G) 12 (fun k => if k < 12 then some (q + 1 + k) else none) else rI (gC G) 12 (fun _ => 0)) (fun i => if i < b + 1 + n then aa i else q + (i - (b + 1 + n))) := by
  obtain ⟨h1, h2, h3, h4, h5, h6, h7⟩ := h
  have eK : gK (gGrid Gn q) = gK Gn + 13 := rfl
  have eA : ∀ i, gA (gGrid Gn q) i = if i < gK Gn then gA Gn i else q + (i - gK Gn) := fun _ => rfl
  have eO : ∀ i, gO (gGrid Gn q) i = if i < gK Gn then gO Gn i else if i = gK Gn then some (rR (gC Gn) 12 (fun k => if k < 12 then some (q + 1 + k) else none)) else some (rI (gC Gn) 12 (fun _ => 0)) := fun _ => rfl
  refine ⟨h1, by rw [eK, h2]; omega, fun i hi => by rw [eA, if_pos (by omega)]; exact h3 i hi, fun i hi => by rw [eO, if_pos (by omega)]; exact h4 i hi, by rw [eO, if_pos (by omega)]; exact h5, h6.grid, fun i hi hi2 => ?_⟩
  rw [eA, eO, h2, h1.2]
  dsimp only
  by_cases c : i < b + 1 + n
  · rw [if_pos c, if_pos c, if_pos c, if_pos c]; exact h7 i hi c
  · rw [if_neg c, if_neg c, if_neg c, if_neg c]
    by_cases c2 : i = b + 1 + n
    · rw [if_pos c2, if_pos c2]; exact ⟨rfl, rfl⟩
    · rw [if_neg c2, if_neg c2]; exact ⟨rfl, rfl⟩
/-- what a constructor leaves: the cells from b to K are the shape's; all below is as it was -/
def Gr (G G' : Gx) (b K : Nat) (mem mem' : Mem) : Prop := (gD G' = gD G ∧ gC G' = gC G) ∧ gK G' = K ∧ (∀ i, i ≤ b → gA G' i = gA G i) ∧ (∀ i, i < b → gO G' i = gO G i) ∧ (∀ i, b ≤ i → i < K → gO G' i = none) ∧ Cl G' ∧ ∀ i, i < b → mem' i = mem i
/-- the world of the shape -/
def gEnd (G Gn : Gx) (b : Nat) : Gx := (gD G, gC G, gK Gn, gA Gn, fun i => if i < b then gO G i else none)
def mEnd (mem : Mem) (b : Nat) : Mem := fun j => if j < b then mem j else fun _ => 0
theorem Bd.gr (h : Bd G Gn b n ct cc aa) (ht : ∀ j, b ≤ j → j < b + 1 + n → top j ≤ b + 1 + n) : Gr G (gEnd G Gn b) b (b + 1 + n) mem (mEnd mem b) := by
  obtain ⟨h1, h2, h3, h4, h5, h6, h7⟩ := h
  refine ⟨⟨rfl, rfl⟩, h2, h3, fun i hi => if_pos hi, fun i hi hi2 => if_neg (by omega), fun j hj hn ad had r => ?_, fun i hi => if_pos hi⟩
  have hj : j < gK Gn := hj
  by_cases c : j < b
  · have e : gO (gEnd G Gn b) j = gO Gn j := (if_pos c).trans (h4 j c).symm
    have := h6 j hj (e.symm.trans hn) ad had r
    rw [h1.2] at this
    exact this
  · exact cl_all (fun k hk => had k (by show k < gK Gn; have := ht j (by omega) (by omega); omega))
theorem Bd.view (h : Bd G Gn b n ct cc aa) (hb : cellAt (gC G) (gA Gn) b (fun _ => 0) = ct) (hc : ∀ j, b < j → j < b + 1 + n → cellAt (gC G) (gA Gn) j (fun _ => 0) = cc j) {l : Launch} {M : MTy} {A : State → Nat → Prop} {Z : List Frame → Array Value → State → State → Prop} {E : Array Value → State → Prop} {cells slots pc : Nat} {lv : Lv} {st : List Value} (kk : Xg l M A Z E (gEnd G Gn b) cells slots (mEnd mem b) pc lv st) : Xg l M A Z E Gn cells slots mem pc lv st := by
  obtain ⟨h1, h2, h3, h4, h5, h6, h7⟩ := h
  refine x_view (G' := gEnd G Gn b) h1.1.symm h1.2.symm rfl (fun j hj => ⟨rfl, ?_⟩) kk
  by_cases c : j < b
  · have e : gO (gEnd G Gn b) j = gO Gn j := (if_pos c).trans (h4 j c).symm
    have em : mEnd mem b j = mem j := if_pos c
    rw [em]
    cases hh : gO Gn j with
    | some x => rw [cR_some hh, cR_some (e.trans hh)]
    | none =>
      rw [cR_none hh, cR_none (e.trans hh), h1.2]
      rfl
  · have e : gO (gEnd G Gn b) j = none := if_neg c
    have em : mEnd mem b j = fun _ => 0 := if_neg c
    rw [cR_none e, em]
    by_cases c2 : j = b
    · subst c2
      rw [cR_some h5]
      exact hb
    · rw [cR_some (h7 j (by omega) (by omega)).1]
      exact hc j (by omega) (by omega)
end BD
