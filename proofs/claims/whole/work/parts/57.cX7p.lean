/-! the model: its reader of the text -/
/-- the model's text -/
def TxM (m : Mem) (len : Nat) (tx : Nat → Nat) : Prop := m 327 1 = nI len ∧ len ≤ 80 ∧ ∀ k, k < len → m 328 k = nI (tx k) ∧ tx k ≤ 255
/-- the place of the model's reader -/
def PlM (mem m : Mem) (p : Nat) : Prop := (∀ a, a ≠ 327 → m a = mem a) ∧ (∀ j, j ≠ 2 → m 327 j = mem 327 j) ∧ m 327 2 = nI p
theorem TxM.pl {mem m : Mem} {len p : Nat} {tx : Nat → Nat} (h : TxM mem len tx) (q : PlM mem m p) : TxM m len tx := ⟨by rw [q.2.1 1 (by decide)]; exact h.1, h.2.1, fun k hk => by rw [q.1 328 (by decide)]; exact h.2.2 k hk⟩
theorem PlM.tr {m1 m2 m3 : Mem} {p p2 : Nat} (h : PlM m1 m2 p) (h2 : PlM m2 m3 p2) : PlM m1 m3 p2 := ⟨fun a ha => (h2.1 a ha).trans (h.1 a ha), fun j hj => (h2.2.1 j hj).trans (h.2.1 j hj), h2.2.2⟩
theorem PlM.rf {m : Mem} {p : Nat} (h : m 327 2 = nI p) : PlM m m p := ⟨fun _ _ => rfl, fun _ _ => rfl, h⟩
theorem PlM.w {m : Mem} {p : Nat} {x : Int32} (h : x = nI p) : PlM m (wr m 327 2 x) p := ⟨fun a ha => by rw [wr_n ha], fun j hj => by rw [wr_at, if_neg (by omega)], by rw [wr_at, if_pos ⟨rfl, rfl⟩, h]⟩
section KM
variable {l : Launch} {G : Gx} {mem : Mem} {n len p : Nat} {tx : Nat → Nat} {w : Nat → Nat} {E : Nat → Nat → Nat} {c : Nat → Nat → Prop} {D H : Nat → Nat → Nat}
theorem c_mSign (hG : Mn G) (ht : TxM mem len tx) (hp : mem 327 2 = nI p) (hp2 : p ≤ 80) {f a b : Nat} (hf : f < 1000) (ha : a < 1000) (hb : b < 1000) : CtI l M_X7_sign G [.ref (gA G 327), .int (nI f), .int (nI a), .int (nI b)] mem (fun r m => (∃ v, tk tx len p (f + a) (f + b) = some v ∧ r = nI (a + v) ∧ PlM mem m (p + 1)) ∨ (tk tx len p (f + a) (f + b) = none ∧ r = -9 ∧ m = mem)) := by
  have hl := ht.2.1
  refine CtI_of (by decide) (Nat.le_of_ble_eq_true rfl) rfl (t_X7_sign_0 hG _ _ _ mem ?_)
  rw [hp, ht.1, i_cl (by omega), i_nle (by omega) (by omega)]
  refine ⟨fun h1 => ⟨_, c_in' (-9) _ _ (i_64 _) (i_64 _), ?_⟩, fun h1 => ⟨i_in (by omega) (by decide), _, c_in' _ _ _ (i_64 _) (i_64 _), ?_⟩⟩
  · rintro r m ⟨rfl, rfl⟩
    rw [if_neg (by rw [i_nI (by omega), i_m9]; omega)]
    exact ⟨fun z => absurd rfl z, fun _ => Or.inr ⟨by unfold tk; rw [if_neg (by omega)], rfl, rfl⟩⟩
  · rintro r m ⟨rfl, rfl⟩
    obtain ⟨g1, g2⟩ := ht.2.2 p (by omega)
    have e : (m 328 p - nI f).toInt = (tx p : Int) - f := by rw [g1, i_sub (by rw [i_nI (by omega), i_nI (by omega)]; omega) (by rw [i_nI (by omega), i_nI (by omega)]; omega), i_nI (by omega), i_nI (by omega)]
    rw [e, i_nI (by omega), i_nI (by omega), hp]
    by_cases q : (a : Int) ≤ (tx p : Int) - f ∧ (tx p : Int) - f ≤ b
    · rw [if_pos q]
      refine ⟨fun _ => Or.inl ⟨tx p - (f + a), by unfold tk; rw [if_pos (by omega)], ?_, PlM.w (nI_1 p)⟩, fun z => absurd z (by decide)⟩
      rw [i_eq, e, i_nI (by omega)]; omega
    · rw [if_neg q]
      exact ⟨fun z => absurd rfl z, fun _ => Or.inr ⟨by unfold tk; rw [if_neg (by omega)], rfl, rfl⟩⟩
theorem c_mNumber (hG : Mn G) (ht : TxM mem len tx) (hp : mem 327 2 = nI p) (hp2 : p ≤ 80) {least g : Nat} (h1 : least ≤ 1) (h2 : g ≤ 99) : CtI l M_X7_number G [.ref (gA G 327), .int (nI least), .int (nI g)] mem (fun r m => PlM mem m (num tx len p least g).1 ∧ ((∃ v, (num tx len p least g).2 = some v ∧ r = nI v) ∨ ((num tx len p least g).2 = none ∧ r = -9))) := by
  have d1 : nI g / 10 = nI (g / 10) := pk_div (d := 10) (by omega) (by decide) (by decide)
  have d2 : nI g - nI g / 10 * 10 = nI (g % 10) := rem_nI (d := 10) (by omega) (by decide) (by decide)
  refine CtI_of (by decide) (Nat.le_of_ble_eq_true rfl) rfl (t_X7_number_0 hG _ _ mem ?_)
  rw [d2, d1]
  refine ⟨_, c_mSign hG ht hp hp2 (f := 48) (a := 0) (b := g / 10) (by decide) (by decide) (by omega), ?_⟩
  intro r m hr
  rcases hr with ⟨t, e1, rfl, hm⟩ | ⟨e1, rfl, rfl⟩
  · have e1 : tk tx len p 48 (48 + g / 10) = some t := e1
    obtain ⟨a1, a2, a3, a4⟩ := tk_some e1
    have ht2 := ht.pl hm
    have bt : t ≤ 9 := by omega
    have hl := ht.2.1
    rw [Nat.zero_add]
    have sec : ∀ lo hi : Nat, lo = (if t = 0 then least else 0) → hi = (if t = g / 10 then g % 10 else 9) → ∀ (r : Int32) (m' : Mem), ((∃ v, tk tx len (p + 1) (48 + lo) (48 + hi) = some v ∧ r = nI (lo + v) ∧ PlM m m' (p + 1 + 1)) ∨ (tk tx len (p + 1) (48 + lo) (48 + hi) = none ∧ r = -9 ∧ m' = m)) → ((¬ r = -9 → PlM mem m' (num tx len p least g).1 ∧ ((∃ v, (num tx len p least g).2 = some v ∧ (10 * nI t + r) = nI v) ∨ ((num tx len p least g).2 = none ∧ (10 * nI t + r) = -9))) ∧ (r = -9 → PlM mem m' (num tx len p least g).1 ∧ ((∃ v, (num tx len p least g).2 = some v ∧ (-9 : Int32) = nI v) ∨ ((num tx len p least g).2 = none ∧ (-9 : Int32) = -9)))) := by
      intro lo hi el eh r m' hr
      unfold num
      rw [e1]
      dsimp only
      rw [← el, ← eh]
      rcases hr with ⟨o, f1, rfl, f2⟩ | ⟨f1, rfl, rfl⟩
      · obtain ⟨b1, b2, b3, b4⟩ := tk_some f1
        have := (ht.2.2 (p + 1) b1).2
        rw [f1]
        have mul : (10 : Int32) * nI t = nI (10 * t) := pk_mul 10 t
        refine ⟨fun _ => ⟨hm.tr f2, Or.inl ⟨_, rfl, ?_⟩⟩, fun z => absurd z (i_n9 (by omega))⟩
        rw [mul, nI_add, Nat.add_assoc]
      · rw [f1]
        exact ⟨fun z => absurd rfl z, fun _ => ⟨hm, Or.inr ⟨rfl, rfl⟩⟩⟩
    refine ⟨fun _ => ⟨fun h3 => ?_, fun h3 => ?_⟩, fun z => absurd z (i_n9 (by omega))⟩
    · have t0 : t ≠ 0 := fun z => h3 (by rw [z]; rfl)
      rw [i_neq (by omega) (by omega)]
      refine ⟨fun h4 => ⟨_, c_mSign hG ht2 hm.2.2 (by omega) (f := 48) (a := 0) (b := 9) (by decide) (by decide) (by decide), ?_⟩, fun h4 => ⟨_, c_mSign hG ht2 hm.2.2 (by omega) (f := 48) (a := 0) (b := g % 10) (by decide) (by decide) (by omega), ?_⟩⟩
      · intro r m' hr
        exact sec 0 9 (by rw [if_neg t0]) (by rw [if_neg h4]) r m' hr
      · intro r m' hr
        exact sec 0 (g % 10) (by rw [if_neg t0]) (by rw [if_pos h4]) r m' hr
    · have t0 : t = 0 := by
        rw [show (0 : Int32) = nI 0 from rfl, i_neq (by omega) (by omega)] at h3
        exact h3
      rw [i_neq (by omega) (by omega)]
      refine ⟨fun h4 => ⟨_, c_mSign hG ht2 hm.2.2 (by omega) (f := 48) (a := least) (b := 9) (by decide) (by omega) (by decide), ?_⟩, fun h4 => ⟨_, c_mSign hG ht2 hm.2.2 (by omega) (f := 48) (a := least) (b := g % 10) (by decide) (by omega) (by omega), ?_⟩⟩
      · intro r m' hr
        exact sec least 9 (by rw [if_pos t0]) (by rw [if_neg h4]) r m' hr
      · intro r m' hr
        exact sec least (g % 10) (by rw [if_pos t0]) (by rw [if_pos h4]) r m' hr
  · have e1 : tk tx len p 48 (48 + g / 10) = none := e1
    refine ⟨fun z => absurd rfl z, fun _ => ?_⟩
    unfold num
    rw [e1]
    exact ⟨PlM.rf hp, Or.inr ⟨rfl, rfl⟩⟩
end KM
