/-! the setup text: what its reading gives, and the class's reader -/
def tk (tx : Nat → Nat) (len p lo hi : Nat) : Option Nat := if p < len ∧ lo ≤ tx p ∧ tx p ≤ hi then some (tx p - lo) else none
def num (tx : Nat → Nat) (len p least g : Nat) : Nat × Option Nat := match tk tx len p 48 (48 + g / 10) with
  | none => (p, none)
  | some t => match tk tx len (p + 1) (48 + (if t = 0 then least else 0)) (48 + (if t = g / 10 then g % 10 else 9)) with
    | none => (p + 1, none)
    | some o => (p + 2, some (10 * t + (if t = 0 then least else 0) + o))
def rdW (tx : Nat → Nat) (len : Nat) : Nat → Nat → Nat × Bool
  | 0, p => (p, true)
  | k + 1, p => match num tx len p 0 99 with
    | (p', none) => (p', false)
    | (p', some _) => rdW tx len k p'
def rch (E : Nat → Nat → Nat) (u : Nat) : Nat → Nat → Prop
  | 0, x => x = u
  | k + 1, x => ∃ y, rch E u k y ∧ 0 < E y x
def Cn (E : Nat → Nat → Nat) (u v : Nat) : Prop := ∃ k, rch E u k v
noncomputable def edg (tx : Nat → Nat) (len n p : Nat) (E : Nat → Nat → Nat) : Nat × Option (Nat → Nat → Nat) := match tk tx len p 97 (96 + n) with
  | none => (p, none)
  | some u => match tk tx len (p + 1) 97 (96 + n) with
    | none => (p + 1, none)
    | some v => ifc (Cn E u v) (p + 1, none) (match num tx len (p + 2) 1 99 with
      | (p', none) => (p', none)
      | (p', some x) => (p', some (updE E u v x)))
noncomputable def rdE (tx : Nat → Nat) (len n : Nat) : Nat → Nat → (Nat → Nat → Nat) → Nat × Option (Nat → Nat → Nat)
  | 0, p, E => (p, some E)
  | f + 1, p, E => if len ≤ p then (p, some E) else match edg tx len n p E with
    | (p', none) => (p', none)
    | (p', some E') => rdE tx len n f p' E'
theorem rdW_s (tx : Nat → Nat) (len k p : Nat) : rdW tx len (k + 1) p = match num tx len p 0 99 with
    | (p', none) => (p', false)
    | (p', some _) => rdW tx len k p' := rfl
theorem rdE_s (tx : Nat → Nat) (len n f p : Nat) (E : Nat → Nat → Nat) : rdE tx len n (f + 1) p E = if len ≤ p then (p, some E) else match edg tx len n p E with
    | (p', none) => (p', none)
    | (p', some E') => rdE tx len n f p' E' := rfl
def wOf (tx : Nat → Nat) (v : Nat) : Nat := 10 * (tx (3 + 2 * v) - 48) + (tx (4 + 2 * v) - 48)
noncomputable def rd (tx : Nat → Nat) (len : Nat) : Nat × Option (Nat × (Nat → Nat → Nat)) := match tk tx len 0 70 70 with
  | none => (0, none)
  | some _ => match num tx len 1 1 12 with
    | (p, none) => (p, none)
    | (_, some n) => match rdW tx len n 3 with
      | (p, false) => (p, none)
      | (p, true) => match rdE tx len n 12 p (fun _ _ => 0) with
        | (p', none) => (p', none)
        | (p', some E) => (p', some (n, E))
theorem tk_some {tx : Nat → Nat} {len p lo hi v : Nat} (h : tk tx len p lo hi = some v) : p < len ∧ lo ≤ tx p ∧ tx p ≤ hi ∧ v = tx p - lo := by
  unfold tk at h
  split at h
  · next q => cases h; exact ⟨q.1, q.2.1, q.2.2, rfl⟩
  · cases h
theorem tk_none {tx : Nat → Nat} {len p lo hi : Nat} (h : tk tx len p lo hi = none) : ¬ (p < len ∧ lo ≤ tx p ∧ tx p ≤ hi) := by
  unfold tk at h
  split at h
  · cases h
  · next q => exact q
theorem num_some {tx : Nat → Nat} {len p least g p' v : Nat} (h : num tx len p least g = (p', some v)) : p' = p + 2 ∧ p + 1 < len ∧ 48 ≤ tx p ∧ tx p ≤ 48 + g / 10 ∧ 48 ≤ tx (p + 1) ∧ tx (p + 1) ≤ 57 + g % 10 ∧ v = 10 * (tx p - 48) + (tx (p + 1) - 48) ∧ (tx p - 48 = 0 → least ≤ tx (p + 1) - 48) ∧ (tx p - 48 = g / 10 → tx (p + 1) ≤ 48 + g % 10) ∧ (tx p - 48 ≠ g / 10 → tx (p + 1) ≤ 57) := by
  unfold num at h
  split at h
  · cases h
  · next t ht =>
    obtain ⟨a1, a2, a3, a4⟩ := tk_some ht
    split at h
    · cases h
    · next o ho =>
      obtain ⟨b1, b2, b3, b4⟩ := tk_some ho
      cases h
      refine ⟨rfl, b1, a2, a3, by omega, ?_, ?_, ?_, ?_, ?_⟩
      · split at b3 <;> omega
      · generalize (if t = 0 then least else 0) = q at b2 b4 ⊢
        omega
      · intro z; rw [if_pos (by omega)] at b2; omega
      · intro z; rw [if_pos (by omega)] at b3; omega
      · intro z; rw [if_neg (by omega)] at b3; omega
/-- the class's text -/
def TxC (m : Mem) (len : Nat) (tx : Nat → Nat) : Prop := m 76 0 = nI len ∧ len ≤ 80 ∧ ∀ k, k < len → m 77 k = nI (tx k) ∧ tx k ≤ 255
/-- the place of the reader; else nothing of the text's object changed -/
def PlC (mem m : Mem) (p : Nat) : Prop := (∀ a, a ≠ 76 → m a = mem a) ∧ m 76 0 = mem 76 0 ∧ m 76 2 = nI p
theorem TxC.pl {mem m : Mem} {len p : Nat} {tx : Nat → Nat} (h : TxC mem len tx) (q : PlC mem m p) : TxC m len tx := ⟨by rw [q.2.1]; exact h.1, h.2.1, fun k hk => by rw [q.1 77 (by decide)]; exact h.2.2 k hk⟩
theorem PlC.tr {m1 m2 m3 : Mem} {p p2 : Nat} (h : PlC m1 m2 p) (h2 : PlC m2 m3 p2) : PlC m1 m3 p2 := ⟨fun a ha => (h2.1 a ha).trans (h.1 a ha), h2.2.1.trans h.2.1, h2.2.2⟩
theorem PlC.rf {m : Mem} {p : Nat} (h : m 76 2 = nI p) : PlC m m p := ⟨fun _ _ => rfl, rfl, h⟩
section CT
variable {l : Launch} {G : Gx} {mem : Mem} {n len p : Nat} {tx : Nat → Nat} {w : Nat → Nat} {E : Nat → Nat → Nat} {c : Nat → Nat → Prop} {D H : Nat → Nat → Nat}
theorem c_take (hG : Mn G) (ht : TxC mem len tx) (hp : mem 76 2 = nI p) (hp2 : p ≤ 80) {lo hi : Nat} (hlo : lo < 1000) (hhi : hi < 1000) : CtI l M_X4_take G [.ref (gA G 76), .int (nI lo), .int (nI hi)] mem (fun r m => (∃ v, tk tx len p lo hi = some v ∧ r = nI v ∧ PlC mem m (p + 1)) ∨ (tk tx len p lo hi = none ∧ r = -1 ∧ m = mem)) := by
  have hl := ht.2.1
  refine CtI_of (by decide) (Nat.le_of_ble_eq_true rfl) rfl (t_X4_take_0 hG _ _ mem ?_)
  rw [hp, ht.1, i_cl (by omega), i_nlt (by omega) (by omega)]
  refine ⟨fun h1 => ⟨i_in (by omega) (by decide), ?_⟩, fun h1 => Or.inr ⟨by unfold tk; rw [if_neg (by omega)], rfl, rfl⟩⟩
  obtain ⟨g1, g2⟩ := ht.2.2 p h1
  rw [g1, i_nlt (by omega) (by omega), i_nle (by omega) (by omega), nI_1]
  refine ⟨fun h2 => Or.inr ⟨by unfold tk; rw [if_neg (by omega)], rfl, rfl⟩, fun h2 => ⟨fun h3 => Or.inl ⟨tx p - lo, by unfold tk; rw [if_pos (by omega)], pk_sub (by omega), ?_⟩, fun h3 => Or.inr ⟨by unfold tk; rw [if_neg (by omega)], rfl, rfl⟩⟩⟩
  exact ⟨fun a ha => by rw [wr_n ha], by rw [wr_at, if_neg (by decide)], by rw [wr_at, if_pos ⟨rfl, rfl⟩]⟩
theorem i_nm1 {k : Nat} (h : k < 2147483648) : nI k ≠ -1 := fun z => by rw [i_eq, i_nI h, i_m1] at z; omega
theorem c_takeNumber (hG : Mn G) (ht : TxC mem len tx) (hp : mem 76 2 = nI p) (hp2 : p ≤ 80) {least g : Nat} (h1 : least ≤ 1) (h2 : g ≤ 99) : CtI l M_X4_takeNumber G [.ref (gA G 76), .int (nI least), .int (nI g)] mem (fun r m => PlC mem m (num tx len p least g).1 ∧ ((∃ v, (num tx len p least g).2 = some v ∧ r = nI v) ∨ ((num tx len p least g).2 = none ∧ r = -1))) := by
  have d1 : nI g / 10 = nI (g / 10) := pk_div (d := 10) (by omega) (by decide) (by decide)
  have d2 : nI g - nI g / 10 * 10 = nI (g % 10) := rem_nI (d := 10) (by omega) (by decide) (by decide)
  refine CtI_of (by decide) (Nat.le_of_ble_eq_true rfl) rfl (t_X4_takeNumber_0 hG _ _ mem ?_)
  rw [d2, d1, show (48 : Int32) = nI 48 from rfl, nI_add, nI_add, nI_add]
  refine ⟨_, c_take hG ht hp hp2 (lo := 48) (by decide) (by omega), ?_⟩
  intro r m hr
  rcases hr with ⟨t, e1, rfl, hm⟩ | ⟨e1, rfl, rfl⟩
  · obtain ⟨a1, a2, a3, a4⟩ := tk_some e1
    have ht2 := ht.pl hm
    have bt : t ≤ 9 := by omega
    have hl := ht.2.1
    -- the second digit, between lo and hi
    have sec : ∀ lo hi : Nat, lo = (if t = 0 then least else 0) → hi = (if t = g / 10 then g % 10 else 9) → ∀ (r : Int32) (m' : Mem), ((∃ v, tk tx len (p + 1) (48 + lo) (48 + hi) = some v ∧ r = nI v ∧ PlC m m' (p + 1 + 1)) ∨ (tk tx len (p + 1) (48 + lo) (48 + hi) = none ∧ r = -1 ∧ m' = m)) → ((¬ r = -1 → PlC mem m' (num tx len p least g).1 ∧ ((∃ v, (num tx len p least g).2 = some v ∧ (nI (10 * t + lo) + r) = nI v) ∨ ((num tx len p least g).2 = none ∧ (nI (10 * t + lo) + r) = -1))) ∧ (r = -1 → PlC mem m' (num tx len p least g).1 ∧ ((∃ v, (num tx len p least g).2 = some v ∧ (-1 : Int32) = nI v) ∨ ((num tx len p least g).2 = none ∧ (-1 : Int32) = -1)))) := by
      intro lo hi el eh r m' hr
      unfold num
      rw [e1]
      dsimp only
      rw [← el, ← eh]
      rcases hr with ⟨o, f1, rfl, f2⟩ | ⟨f1, rfl, rfl⟩
      · obtain ⟨b1, b2, b3, b4⟩ := tk_some f1
        have := (ht.2.2 (p + 1) b1).2
        rw [f1]
        refine ⟨fun _ => ⟨hm.tr f2, Or.inl ⟨_, rfl, ?_⟩⟩, fun z => absurd z (i_nm1 (by omega))⟩
        rw [nI_add]
      · rw [f1]
        exact ⟨fun z => absurd rfl z, fun _ => ⟨hm, Or.inr ⟨rfl, rfl⟩⟩⟩
    have z48 : nI 48 + 0 = nI 48 := rfl
    have z57 : nI 48 + 9 = nI 57 := rfl
    have mul : (10 : Int32) * nI t = nI (10 * t) := pk_mul 10 t
    have z0 : nI (10 * t) + 0 = nI (10 * t) := by rw [show (0 : Int32) = nI 0 from rfl, nI_add, Nat.add_zero]
    refine ⟨fun _ => ⟨fun h3 => ?_, fun h3 => ?_⟩, fun z => absurd z (i_nm1 (by omega))⟩
    · have t0 : t ≠ 0 := fun z => h3 (by rw [z]; rfl)
      rw [i_neq (by omega) (by omega), z48, z57, mul, z0]
      refine ⟨fun h4 => ⟨_, c_take hG ht2 hm.2.2 (by omega) (lo := 48) (hi := 57) (by decide) (by decide), ?_⟩, fun h4 => ⟨_, c_take hG ht2 hm.2.2 (by omega) (lo := 48) (by decide) (by omega), ?_⟩⟩
      · intro r m' hr
        exact sec 0 9 (by rw [if_neg t0]) (by rw [if_neg h4]) r m' hr
      · intro r m' hr
        exact sec 0 (g % 10) (by rw [if_neg t0]) (by rw [if_pos h4]) r m' hr
    · have t0 : t = 0 := by
        rw [show (0 : Int32) = nI 0 from rfl, i_neq (by omega) (by omega)] at h3
        exact h3
      rw [i_neq (by omega) (by omega), z57, mul, nI_add]
      refine ⟨fun h4 => ⟨_, c_take hG ht2 hm.2.2 (by omega) (hi := 57) (by omega) (by decide), ?_⟩, fun h4 => ⟨_, c_take hG ht2 hm.2.2 (by omega) (by omega) (by omega), ?_⟩⟩
      · intro r m' hr
        exact sec least 9 (by rw [if_pos t0]) (by rw [if_neg h4]) r m' hr
      · intro r m' hr
        exact sec least (g % 10) (by rw [if_pos t0]) (by rw [if_pos h4]) r m' hr
  · refine ⟨fun z => absurd rfl z, fun _ => ?_⟩
    unfold num
    rw [e1]
    exact ⟨PlC.rf hp, Or.inr ⟨rfl, rfl⟩⟩
end CT
