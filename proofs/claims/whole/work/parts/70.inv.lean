/-! the invariant of both objects -/
section IV
variable {l : Launch} {G : Gx} {mem m m' : Mem} {n : Nat}
theorem f_1 (h : Mn G) : Fo G 1 := Fo_of h (by decide)
theorem f_30 (h : Mn G) : Fo G 30 := Fo_of h (by decide)
theorem s_16 (h : Mn G) : Sv G 16 := ⟨Or.inl rfl, h⟩
theorem s_45 (h : Mn G) : Sv G 45 := ⟨Or.inr rfl, h⟩
theorem r_329 (h : Mn G) : Ra G 329 := ⟨Or.inl rfl, h⟩
theorem r_330 (h : Mn G) : Ra G 330 := ⟨Or.inr (Or.inl rfl), h⟩
theorem r_331 (h : Mn G) : Ra G 331 := ⟨Or.inr (Or.inr rfl), h⟩
/-- the forest at f and the model's row p hold the same -/
def Sh (n : Nat) (m : Mem) (f : Nat) (p : Nat → Int32) : Prop := ∃ (wc wm : Nat → Nat) (E : Nat → Nat → Nat), FoAt m f n wc E ∧ ((∀ v, v < 12 → p v = nI (wm v)) ∧ ∀ u v, u < 12 → v < 12 → p (12 + 12 * u + v) = nI (E u v)) ∧ (∀ v, v < n → wm v = wc v ∧ wc v ≤ 99) ∧ Gd n E
theorem Sh.mv {f : Nat} {p p' : Nat → Int32} (h : Sh n m f p) (h1 : ∀ a, f ≤ a → a < f + 15 → m' a = m a) (h2 : ∀ k, k < 156 → p' k = p k) : Sh n m' f p' := by
  obtain ⟨wc, wm, E, a1, ⟨a2, a3⟩, a4, a5⟩ := h
  exact ⟨wc, wm, E, ⟨by rw [h1 _ (by omega) (by omega)]; exact a1.1, fun v hv => by rw [h1 _ (by omega) (by omega)]; exact a1.2.1 v hv, fun u v hu hv => by rw [h1 _ (by omega) (by omega)]; exact a1.2.2 u v hu hv⟩, ⟨fun v hv => by rw [h2 _ (by omega)]; exact a2 v hv, fun u v hu hv => by rw [h2 _ (by omega)]; exact a3 u v hu hv⟩, a4, a5⟩
/-- the remembered states -/
def Hi (n : Nat) (m : Mem) : Prop := ∃ nx ct, (m 79 1 = nI nx ∧ m 327 10 = nI nx ∧ nx < 14) ∧ (m 79 2 = nI ct ∧ m 327 9 = nI ct ∧ ct ≤ 14) ∧ ∀ j, j < ct → Sh n m (81 + 15 * ((nx + 13 - j) % 14)) (fun i => m 332 (156 * ((nx + 13 - j) % 14) + i))
/-- the save slots -/
def Sl (n : Nat) (m : Mem) : Prop := ∀ s, s < 2 → m 326 s = m 334 s ∧ (m 334 s = 0 ∨ m 334 s = 1) ∧ (m 334 s ≠ 0 → Sh n m (296 + 15 * s) (fun i => m 333 (156 * s + i)))
/-- the observations -/
def Ob (m : Mem) : Prop := ∃ (nx ct : Nat) (us vs ds : Nat → Nat), (m 291 3 = nI nx ∧ nx < 6 ∧ m 291 4 = nI ct ∧ ct ≤ 6 ∧ (ct < 6 → nx = ct) ∧ m 327 14 = nI ct) ∧ (∀ i, i < ct → m 292 i = nI (us i) ∧ m 293 i = nI (vs i) ∧ m 294 i = nI (ds i) ∧ us i < 12 ∧ vs i < 12 ∧ ds i < 1000) ∧ ∀ i, i < ct → m 335 (3 * i) = nI (us ((nx + 6 - ct + i) % 6)) ∧ m 335 (3 * i + 1) = nI (vs ((nx + 6 - ct + i) % 6)) ∧ m 335 (3 * i + 2) = nI (ds ((nx + 6 - ct + i) % 6))
/-- the text -/
def Tx (m : Mem) : Prop := ∃ len tx, TxC m len tx ∧ TxM m len tx
def Inv (m : Mem) : Prop := ∃ n, (m 327 3 = nI n ∧ Sh n m 1 (m 329)) ∧ Hi n m ∧ Sl n m ∧ Ob m ∧ Tx m
/-- what the invariant speaks of is kept -/
def Keep (m m' : Mem) : Prop := (∀ a, (1 ≤ a ∧ a < 16) ∨ a = 77 ∨ (79 ≤ a ∧ a < 327) ∨ a = 328 ∨ a = 329 ∨ (332 ≤ a ∧ a < 336) → m' a = m a) ∧ m' 76 0 = m 76 0 ∧ ∀ j, j ≠ 2 → j ≠ 4 → j ≠ 22 → j ≠ 23 → m' 327 j = m 327 j
theorem Keep.rf : Keep m m := ⟨fun _ _ => rfl, rfl, fun _ _ _ _ _ => rfl⟩
theorem Keep.tr {m1 m2 m3 : Mem} (h : Keep m1 m2) (g : Keep m2 m3) : Keep m1 m3 := ⟨fun a q => (g.1 a q).trans (h.1 a q), g.2.1.trans h.2.1, fun j a1 a2 a3 a4 => (g.2.2 j a1 a2 a3 a4).trans (h.2.2 j a1 a2 a3 a4)⟩
theorem Keep.o {lo hi : Nat} (h : Out lo hi m m') (h1 : 16 ≤ lo) (h2 : hi ≤ 76) : Keep m m' := ⟨fun a q => h a (by omega), by rw [h 76 (by omega)], fun j _ _ _ _ => by rw [h 327 (by omega)]⟩
theorem Keep.f (h : ∀ a, a ≠ 336 → a ≠ 337 → m' a = m a) : Keep m m' := ⟨fun a q => h a (by omega) (by omega), by rw [h 76 (by omega) (by omega)], fun j _ _ _ _ => by rw [h 327 (by omega) (by omega)]⟩
theorem Keep.F (h : FOut m m') : Keep m m' := ⟨fun a q => h a (by omega) (by omega) (by omega), by rw [h 76 (by omega) (by omega) (by omega)], fun j _ _ _ _ => by rw [h 327 (by omega) (by omega) (by omega)]⟩
theorem Keep.T (h : TOut m m') : Keep m m' := ⟨fun a q => h a (by omega) (by omega) (by omega), by rw [h 76 (by omega) (by omega) (by omega)], fun j _ _ _ _ => by rw [h 327 (by omega) (by omega) (by omega)]⟩
theorem Keep.C (h : COut m m') : Keep m m' := ⟨fun a q => h.1 a (by omega) (by omega) (by omega), by rw [h.1 76 (by omega) (by omega) (by omega)], fun j _ _ a3 a4 => h.2 j a3 a4⟩
theorem Keep.M (h : MOut m m') : Keep m m' := Keep.C (COut.M h)
theorem Keep.n3 (h : Keep m m') (q : m 327 3 = nI n) : m' 327 3 = nI n := by rw [h.2.2 3 (by decide) (by decide) (by decide) (by decide)]; exact q
theorem Keep.ro {w : Nat → Nat} {E : Nat → Nat → Nat} (h : Keep m m') (q : RoAt m 329 w E) : RoAt m' 329 w E := q.eq' (h.1 329 (by omega))
theorem Keep.sh {f : Nat} {p p' : Nat → Int32} (h : Keep m m') (q : Sh n m f p) (hf : f = 1 ∨ (79 ≤ f ∧ f + 15 ≤ 327)) (h2 : ∀ k, k < 156 → p' k = p k) : Sh n m' f p' := q.mv (fun a a1 a2 => h.1 a (by omega)) h2
theorem Keep.hi (h : Keep m m') (q : Hi n m) : Hi n m' := by
  obtain ⟨nx, ct, ⟨a1, a2, a3⟩, ⟨a4, a5, a6⟩, a7⟩ := q
  exact ⟨nx, ct, ⟨by rw [h.1 79 (by omega)]; exact a1, by rw [h.2.2 10 (by decide) (by decide) (by decide) (by decide)]; exact a2, a3⟩, ⟨by rw [h.1 79 (by omega)]; exact a4, by rw [h.2.2 9 (by decide) (by decide) (by decide) (by decide)]; exact a5, a6⟩, fun j hj => h.sh (a7 j hj) (by omega) (fun k _ => by rw [h.1 332 (by omega)])⟩
theorem Keep.sl (h : Keep m m') (q : Sl n m) : Sl n m' := by
  intro s hs
  obtain ⟨a1, a2, a3⟩ := q s hs
  rw [h.1 326 (by omega), h.1 334 (by omega)]
  exact ⟨a1, a2, fun z => h.sh (a3 z) (by omega) (fun k _ => by rw [h.1 333 (by omega)])⟩
theorem Keep.ob (h : Keep m m') (q : Ob m) : Ob m' := by
  obtain ⟨nx, ct, us, vs, ds, a1, a2, a3⟩ := q
  refine ⟨nx, ct, us, vs, ds, ?_, ?_, ?_⟩
  · rw [h.1 291 (by omega), h.2.2 14 (by decide) (by decide) (by decide) (by decide)]; exact a1
  · rw [h.1 292 (by omega), h.1 293 (by omega), h.1 294 (by omega)]; exact a2
  · rw [h.1 335 (by omega)]; exact a3
theorem Keep.tx (h : Keep m m') (q : Tx m) : Tx m' := by
  obtain ⟨len, tx, a1, a2⟩ := q
  exact ⟨len, tx, ⟨by rw [h.2.1]; exact a1.1, a1.2.1, by rw [h.1 77 (by omega)]; exact a1.2.2⟩, ⟨by rw [h.2.2 1 (by decide) (by decide) (by decide) (by decide)]; exact a2.1, a2.2.1, by rw [h.1 328 (by omega)]; exact a2.2.2⟩⟩
theorem Inv.keep (I : Inv m) (h : Keep m m') : Inv m' := by
  obtain ⟨n, ⟨a1, a2⟩, a3, a4, a5, a6⟩ := I
  exact ⟨n, ⟨h.n3 a1, h.sh a2 (Or.inl rfl) (fun k _ => by rw [h.1 329 (by omega)])⟩, h.hi a3, h.sl a4, h.ob a5, h.tx a6⟩
theorem Inv.ex (I : Inv m) : ∃ n wc wm E, 1 ≤ n ∧ n ≤ 12 ∧ m 327 3 = nI n ∧ FoAt m 1 n wc E ∧ (∀ v, v < n → wm v = wc v ∧ wc v ≤ 99) ∧ Gd n E ∧ RoAt m 329 wm E := by
  obtain ⟨n, ⟨a1, wc, wm, E, b1, b2, b3, b4⟩, -⟩ := I
  exact ⟨n, wc, wm, E, b4.1.1, b4.1.2, a1, b1, b3, b4, b2⟩
theorem Cst_w {w w' : Nat → Nat} {c : Nat → Nat → Prop} {D : Nat → Nat → Nat} (h : ∀ v, v < n → w v = w' v) : Cst n w c D = Cst n w' c D := by
  funext v
  exact smO_cong (fun _ _ => Iff.rfl) (fun x hx _ => by rw [h x hx])
theorem Load_w {w w' : Nat → Nat} {c : Nat → Nat → Prop} {D : Nat → Nat → Nat} (h : ∀ v, v < n → w v = w' v) : Load n w c D = Load n w' c D := by
  funext a b
  have e1 : LoadA n w c D a b = LoadA n w' c D a b := smO_cong (fun _ _ => Iff.rfl) (fun x hx _ => h x hx)
  have e2 : LoadB n w c D a b = LoadB n w' c D a b := smO_cong (fun _ _ => Iff.rfl) (fun x hx _ => h x hx)
  unfold Load
  rw [e1, e2]
theorem Bal_w {w w' : Nat → Nat} {E : Nat → Nat → Nat} {c : Nat → Nat → Prop} {D : Nat → Nat → Nat} {v : Nat} {r : Int32} (h : ∀ v, v < n → w v = w' v) (q : BalAns n w E c D v r) : BalAns n w' E c D v r := by
  have e : BL n w c D = BL n w' c D := by
    funext k
    unfold BL
    rw [Load_w h]
  unfold BalAns at q ⊢
  rw [← e]
  exact q
theorem Rea_w {w w' : Nat → Nat} {c : Nat → Nat → Prop} {H : Nat → Nat → Nat} {t v : Nat} (h : ∀ v, v < n → w v = w' v) : Rea n w c H t v = Rea n w' c H t v := smO_cong (fun _ _ => Iff.rfl) (fun x hx _ => by rw [h x hx])
end IV
