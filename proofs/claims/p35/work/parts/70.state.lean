/-! the state of an object, as one value: forest, remembered states, slots, observations, text -/
/-- weights and edges -/
abbrev Fw := (Nat → Nat) × (Nat → Nat → Nat)
abbrev Obt := Nat × Nat × (Nat → Nat) × (Nat → Nat) × (Nat → Nat)
abbrev Txt := Nat × (Nat → Nat)
abbrev Sta := Nat × Fw × List Fw × (Nat → Option Fw) × Obt × Txt
section IV
variable {l : Launch} {G : Gx} {mem m m' : Mem} {n : Nat} {S : Sta} {x : Fw}
theorem f_1 (h : Mn G) : Fo G 1 := Fo_of h (by decide)
theorem f_30 (h : Mn G) : Fo G 30 := Fo_of h (by decide)
theorem s_16 (h : Mn G) : Sv G 16 := ⟨Or.inl rfl, h⟩
theorem s_45 (h : Mn G) : Sv G 45 := ⟨Or.inr rfl, h⟩
theorem pos_ {A B : Prop} (b : B) : (¬ (1 : Int32) = 0 → B) ∧ ((1 : Int32) = 0 → A) := ⟨fun _ => b, fun z => absurd z (by decide)⟩
theorem pos' {A B : Prop} (b : B) : ((1 : Int32) = 0 → A) ∧ (¬ (1 : Int32) = 0 → B) := ⟨fun z => absurd z (by decide), fun _ => b⟩
theorem neg_ {A B : Prop} (b : B) : ((0 : Int32) = 0 → B) ∧ (¬ (0 : Int32) = 0 → A) := ⟨fun _ => b, fun z => absurd rfl z⟩
theorem neg' {A B : Prop} (b : B) : (¬ (0 : Int32) = 0 → A) ∧ ((0 : Int32) = 0 → B) := ⟨fun z => absurd rfl z, fun _ => b⟩
/-- the forest at f holds n vertices and x -/
def Fok (m : Mem) (f n : Nat) (x : Fw) : Prop := ∃ w' : Nat → Nat, FoAt m f n w' x.2 ∧ (∀ v, v < n → w' v = x.1 v) ∧ (∀ v, v < n → x.1 v ≤ 99) ∧ Gd n x.2
theorem FoAt.mv {f : Nat} {w : Nat → Nat} {E : Nat → Nat → Nat} (h : FoAt m f n w E) (h1 : ∀ a, f ≤ a → a < f + 15 → m' a = m a) : FoAt m' f n w E :=
  ⟨by rw [h1 _ (by omega) (by omega)]; exact h.1, fun v hv => by rw [h1 _ (by omega) (by omega)]; exact h.2.1 v hv, fun u v hu hv => by rw [h1 _ (by omega) (by omega)]; exact h.2.2 u v hu hv⟩
theorem Fok.mv {f : Nat} (h : Fok m f n x) (h1 : ∀ a, f ≤ a → a < f + 15 → m' a = m a) : Fok m' f n x := by
  obtain ⟨w', a1, a2⟩ := h
  exact ⟨w', a1.mv h1, a2⟩
/-- the remembered states, the last one first -/
def Hi (n : Nat) (m : Mem) (h : List Fw) : Prop := ∃ nx, m 79 1 = nI nx ∧ nx < 14 ∧ m 79 2 = nI h.length ∧ h.length ≤ 14 ∧ ∀ j y, h[j]? = some y → Fok m (81 + 15 * ((nx + 13 - j) % 14)) n y
/-- the save slots -/
def Sl (n : Nat) (m : Mem) (s : Nat → Option Fw) : Prop := ∀ k, k < 2 → (s k = none → m 326 k = 0) ∧ ∀ y, s k = some y → m 326 k = 1 ∧ Fok m (296 + 15 * k) n y
/-- the observations -/
def Ob (m : Mem) (o : Obt) : Prop := (m 291 3 = nI o.1 ∧ o.1 < 6 ∧ m 291 4 = nI o.2.1 ∧ o.2.1 ≤ 6 ∧ (o.2.1 < 6 → o.1 = o.2.1)) ∧ ∀ i, i < o.2.1 → m 292 i = nI (o.2.2.1 i) ∧ m 293 i = nI (o.2.2.2.1 i) ∧ m 294 i = nI (o.2.2.2.2 i) ∧ o.2.2.1 i < 12 ∧ o.2.2.2.1 i < 12 ∧ o.2.2.2.2 i < 1000
def At (m : Mem) (S : Sta) : Prop := Fok m 1 S.1 S.2.1 ∧ Hi S.1 m S.2.2.1 ∧ Sl S.1 m S.2.2.2.1 ∧ Ob m S.2.2.2.2.1 ∧ TxC m S.2.2.2.2.2.1 S.2.2.2.2.2.2
/-- what a state speaks of is kept -/
def Keep (m m' : Mem) : Prop := (∀ a, (1 ≤ a ∧ a < 16) ∨ a = 77 ∨ (79 ≤ a ∧ a < 327) → m' a = m a) ∧ m' 76 0 = m 76 0
theorem Keep.rf : Keep m m := ⟨fun _ _ => rfl, rfl⟩
theorem Keep.tr {m1 m2 m3 : Mem} (h : Keep m1 m2) (g : Keep m2 m3) : Keep m1 m3 := ⟨fun a q => (g.1 a q).trans (h.1 a q), g.2.trans h.2⟩
theorem Keep.o {lo hi : Nat} (h : Out lo hi m m') (h1 : 16 ≤ lo) (h2 : hi ≤ 76) : Keep m m' := ⟨fun a q => h a (by omega), by rw [h 76 (by omega)]⟩
theorem Keep.rd {len : Nat} {tx : Nat → Nat} (h : OtC 30 m m') (h1 : TxC m len tx) (h2 : TxC m' len tx) : Keep m m' := ⟨fun a q => h a (by omega) (by omega) (by omega), by rw [h1.1, h2.1]⟩
theorem Hi.mv {h : List Fw} (q : Hi n m h) (h1 : ∀ a, 79 ≤ a → a < 291 → m' a = m a) : Hi n m' h := by
  obtain ⟨nx, a1, a2, a3, a4, a5⟩ := q
  refine ⟨nx, by rw [h1 79 (by omega) (by omega)]; exact a1, a2, by rw [h1 79 (by omega) (by omega)]; exact a3, a4, fun j y hj => (a5 j y hj).mv (fun a b1 b2 => h1 a (by omega) ?_)⟩
  have : (nx + 13 - j) % 14 < 14 := Nat.mod_lt _ (by decide)
  omega
theorem Sl.mv {s : Nat → Option Fw} (q : Sl n m s) (h1 : ∀ a, 296 ≤ a → a < 327 → m' a = m a) : Sl n m' s := by
  intro k hk
  obtain ⟨a1, a2⟩ := q k hk
  rw [h1 326 (by omega) (by omega)]
  exact ⟨a1, fun y hy => ⟨(a2 y hy).1, (a2 y hy).2.mv (fun a b1 b2 => h1 a (by omega) (by omega))⟩⟩
theorem Ob.mv {o : Obt} (q : Ob m o) (h1 : ∀ a, 291 ≤ a → a < 295 → m' a = m a) : Ob m' o := by
  unfold Ob
  rw [h1 291 (by omega) (by omega), h1 292 (by omega) (by omega), h1 293 (by omega) (by omega), h1 294 (by omega) (by omega)]
  exact q
theorem TxC.mv {len : Nat} {tx : Nat → Nat} (q : TxC m len tx) (h1 : m' 76 0 = m 76 0) (h2 : m' 77 = m 77) : TxC m' len tx := ⟨by rw [h1]; exact q.1, q.2.1, by rw [h2]; exact q.2.2⟩
theorem At.keep (I : At m S) (h : Keep m m') : At m' S :=
  ⟨I.1.mv (fun a b1 b2 => h.1 a (by omega)), I.2.1.mv (fun a b1 b2 => h.1 a (by omega)), I.2.2.1.mv (fun a b1 b2 => h.1 a (by omega)), I.2.2.2.1.mv (fun a b1 b2 => h.1 a (by omega)), I.2.2.2.2.mv h.2 (h.1 77 (by omega))⟩
theorem Cst_w {w w' : Nat → Nat} {c : Nat → Nat → Prop} {D : Nat → Nat → Nat} (h : ∀ v, v < n → w v = w' v) : Cst n w c D = Cst n w' c D := by
  funext v
  exact smO_cong (fun _ _ => Iff.rfl) (fun x hx _ => by rw [h x hx])
theorem Load_w {w w' : Nat → Nat} {c : Nat → Nat → Prop} {D : Nat → Nat → Nat} (h : ∀ v, v < n → w v = w' v) : Load n w c D = Load n w' c D := by
  funext a b
  have e1 : LoadA n w c D a b = LoadA n w' c D a b := smO_cong (fun _ _ => Iff.rfl) (fun x hx _ => h x hx)
  have e2 : LoadB n w c D a b = LoadB n w' c D a b := smO_cong (fun _ _ => Iff.rfl) (fun x hx _ => h x hx)
  unfold Load
  rw [e1, e2]
theorem Bal_w {w w' : Nat → Nat} {E : Nat → Nat → Nat} {c : Nat → Nat → Prop} {D : Nat → Nat → Nat} {v : Nat} {r : Int32} (h : ∀ v, v < n → w v = w' v) (q : BalAns n w E c D v r) : BalAns n w' E c D v r := by
  have e : BL n w c D = BL n w' c D := by
    funext k
    unfold BL
    rw [Load_w h]
  unfold BalAns at q ⊢
  rw [← e]
  exact q
theorem Rea_w {w w' : Nat → Nat} {c : Nat → Nat → Prop} {H : Nat → Nat → Nat} {t v : Nat} (h : ∀ v, v < n → w v = w' v) : Rea n w c H t v = Rea n w' c H t v := smO_cong (fun _ _ => Iff.rfl) (fun x hx _ => by rw [h x hx])
end IV
