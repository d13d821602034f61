/-! the text and its loading: class and model go alike -/
section OP
variable {l : Launch} {G : Gx} {mem m m' : Mem} {n : Nat}
theorem Hi.mv (h : Hi n m) (h1 : ∀ a, 79 ≤ a → a < 291 → m' a = m a) (h2 : m' 332 = m 332) (h3 : m' 327 9 = m 327 9) (h4 : m' 327 10 = m 327 10) : Hi n m' := by
  obtain ⟨nx, ct, ⟨a1, a2, a3⟩, ⟨a4, a5, a6⟩, a7⟩ := h
  exact ⟨nx, ct, ⟨by rw [h1 79 (by omega) (by omega)]; exact a1, by rw [h4]; exact a2, a3⟩, ⟨by rw [h1 79 (by omega) (by omega)]; exact a4, by rw [h3]; exact a5, a6⟩, fun j hj => (a7 j hj).mv (fun a b1 b2 => h1 a (by omega) (by omega)) (fun k _ => by rw [h2])⟩
theorem Sl.mv (h : Sl n m) (h1 : ∀ a, 296 ≤ a → a < 327 → m' a = m a) (h2 : m' 333 = m 333) (h3 : m' 334 = m 334) : Sl n m' := by
  intro s hs
  obtain ⟨a1, a2, a3⟩ := h s hs
  rw [h1 326 (by omega) (by omega), h3]
  exact ⟨a1, a2, fun z => (a3 z).mv (fun a b1 b2 => h1 a (by omega) (by omega)) (fun k _ => by rw [h2])⟩
theorem Ob.mv (h : Ob m) (h1 : ∀ a, 291 ≤ a → a < 295 → m' a = m a) (h2 : m' 335 = m 335) (h3 : m' 327 14 = m 327 14) : Ob m' := by
  obtain ⟨nx, ct, us, vs, ds, a1, a2, a3⟩ := h
  refine ⟨nx, ct, us, vs, ds, ?_, ?_, ?_⟩
  · rw [h1 291 (by omega) (by omega), h3]; exact a1
  · rw [h1 292 (by omega) (by omega), h1 293 (by omega) (by omega), h1 294 (by omega) (by omega)]; exact a2
  · rw [h2]; exact a3
theorem Tx.mv (h : Tx m) (h1 : m' 76 0 = m 76 0) (h2 : m' 77 = m 77) (h3 : m' 327 1 = m 327 1) (h4 : m' 328 = m 328) : Tx m' := by
  obtain ⟨len, tx, a1, a2⟩ := h
  exact ⟨len, tx, ⟨by rw [h1]; exact a1.1, a1.2.1, by rw [h2]; exact a1.2.2⟩, ⟨by rw [h3]; exact a2.1, a2.2.1, by rw [h4]; exact a2.2.2⟩⟩
/-- only the text differs -/
theorem Inv.txt (I : Inv m) (h1 : ∀ a, a ≠ 76 → a ≠ 77 → a ≠ 327 → a ≠ 328 → m' a = m a) (h2 : ∀ j, j ≠ 1 → m' 327 j = m 327 j) (h : Tx m') : Inv m' := by
  obtain ⟨n, ⟨a1, a2⟩, a3, a4, a5, -⟩ := I
  refine ⟨n, ⟨by rw [h2 3 (by decide)]; exact a1, a2.mv (fun a b1 b2 => h1 a (by omega) (by omega) (by omega) (by omega)) (fun k _ => by rw [h1 329 (by omega) (by omega) (by omega) (by omega)])⟩, ?_, ?_, ?_, h⟩
  · exact a3.mv (fun a b1 b2 => h1 a (by omega) (by omega) (by omega) (by omega)) (h1 332 (by omega) (by omega) (by omega) (by omega)) (h2 9 (by decide)) (h2 10 (by decide))
  · exact a4.mv (fun a b1 b2 => h1 a (by omega) (by omega) (by omega) (by omega)) (h1 333 (by omega) (by omega) (by omega) (by omega)) (h1 334 (by omega) (by omega) (by omega) (by omega))
  · exact a5.mv (fun a b1 b2 => h1 a (by omega) (by omega) (by omega) (by omega)) (h1 335 (by omega) (by omega) (by omega) (by omega)) (h2 14 (by decide))
theorem c_size (hG : Mn G) : CtI l M_X4_size G [.ref (gA G 76)] mem (fun r m => m = mem ∧ r = mem 76 0) := CtI_of (by decide) (Nat.le_of_ble_eq_true rfl) rfl (t_X4_size_0 hG mem ⟨rfl, rfl⟩)
theorem op_append (hG : Mn G) (I : Inv mem) (c : Int32) : CtI l M_X6_append G [.ref (gA G 0), .int c] mem (fun r m => CtI l M_X7_append G [.ref (gA G 327), .int c] m (fun r' m' => r' = r ∧ Inv m')) := by
  have htx : Tx mem := by obtain ⟨_, -, -, -, -, q⟩ := I; exact q
  obtain ⟨len, tx, t1, t2⟩ := htx
  have hl := t1.2.1
  have bad : ¬ (0 ≤ c.toInt ∧ c.toInt ≤ 255) → CtI l M_X7_append G [.ref (gA G 327), .int c] mem (fun r' m' => r' = -2 ∧ Inv m') := by
    intro nc
    refine CtI_of (by decide) (Nat.le_of_ble_eq_true rfl) rfl (t_X7_append_0 hG _ _ ⟨_, c_in' c 0 255 i_64_0 (d' := 255) rfl, ?_⟩)
    rintro y m ⟨rfl, rfl⟩
    rw [if_neg nc]
    exact neg' ⟨rfl, I⟩
  refine CtI_of (by decide) (Nat.le_of_ble_eq_true rfl) rfl (t_X6_append_0 hG _ mem ⟨fun z => bad (fun y => ?_), fun z => ⟨fun z2 => ?_, fun z2 => bad (fun y => ?_)⟩⟩)
  · rw [i_lt, i_0] at z; omega
  · rw [i_lt, i_0] at z
    rw [i_le, i_255] at z2
    obtain ⟨k, hk, rfl⟩ : ∃ k : Nat, k < 256 ∧ c = nI k := i_arg (by omega) (by omega)
    have cin : 0 ≤ (nI k).toInt ∧ (nI k).toInt ≤ 255 := by omega
    by_cases q : len < 80
    · have e0 : mem 76 0 = nI len := t1.1
      refine ⟨fun r m => r = 1 ∧ m = wr (wr mem 77 len (nI k)) 76 0 (nI (len + 1)), CtI_of (by decide) (Nat.le_of_ble_eq_true rfl) rfl (t_X4_put_0 hG _ mem ?_), ?_⟩
      · rw [e0, show (80 : Int32) = nI 80 from rfl, i_nlt (by omega) (by decide), i_cl (by omega), wr_n (by decide), e0, nI_1]
        exact ⟨fun _ => ⟨i_in (by omega) (by decide), rfl, rfl⟩, fun z => absurd q z⟩
      · rintro r m ⟨rfl, em⟩
        refine pos' ⟨_, c_size hG, ?_⟩
        rintro r m1 ⟨rfl, rfl⟩
        have a1 : m1 76 0 = nI (len + 1) := by rw [em, wr_at, if_pos ⟨rfl, rfl⟩]
        have b1 : ∀ a, a ≠ 76 → a ≠ 77 → m1 a = mem a := fun a h1 h2 => by rw [em, wr_n h1, wr_n h2]
        have c1 : ∀ j, m1 77 j = if j = len then nI k else mem 77 j := fun j => by
          rw [em, wr_n (by decide), wr_at]
          by_cases e : j = len
          · rw [if_pos ⟨rfl, e⟩, if_pos e]
          · rw [if_neg (fun z => e z.2), if_neg e]
        clear em
        rw [a1]
        have l1 : m1 327 1 = nI len := by rw [b1 327 (by decide) (by decide)]; exact t2.1
        refine CtI_of (by decide) (Nat.le_of_ble_eq_true rfl) rfl (t_X7_append_0 hG _ _ ⟨_, c_in' (nI k) 0 255 i_64_0 (d' := 255) rfl, ?_⟩)
        rintro y m2 ⟨rfl, rfl⟩
        have l2 : wr m2 328 len (nI k) 327 1 = nI len := by rw [wr_n (by decide)]; exact l1
        rw [if_pos cin, l1, i_cl (by omega), l2, nI_1]
        refine pos_ ⟨fun _ => ⟨i_in (by omega) (by decide), by rw [wr_at, if_pos ⟨rfl, rfl⟩], ?_⟩, fun z => ?_⟩
        · have tx' : ∀ j, j < len + 1 → (if j = len then nI k else mem 77 j) = nI (updW tx len k j) ∧ (if j = len then nI k else mem 328 j) = nI (updW tx len k j) ∧ updW tx len k j ≤ 255 := by
            intro j hj
            unfold updW
            by_cases e : j = len
            · rw [if_pos e, if_pos e, if_pos e]; exact ⟨rfl, rfl, by omega⟩
            · rw [if_neg e, if_neg e, if_neg e]
              exact ⟨(t1.2.2 j (by omega)).1, (t2.2.2 j (by omega)).1, (t1.2.2 j (by omega)).2⟩
          refine I.txt (fun a h1 h2 h3 h4 => by rw [wr_n h3, wr_n h4]; exact b1 a h1 h2) (fun j hj => by rw [wr_at, if_neg (by omega), wr_n (by decide), b1 327 (by decide) (by decide)]) ⟨len + 1, updW tx len k, ⟨by rw [wr_n (by decide), wr_n (by decide)]; exact a1, by omega, fun j hj => ⟨?_, (tx' j hj).2.2⟩⟩, ⟨by rw [wr_at, if_pos ⟨rfl, rfl⟩], by omega, fun j hj => ⟨?_, (tx' j hj).2.2⟩⟩⟩
          · rw [wr_n (by decide), wr_n (by decide), c1]; exact (tx' j hj).1
          · rw [wr_n (by decide), wr_at, b1 328 (by decide) (by decide)]
            have := (tx' j hj).2.1
            by_cases e : j = len
            · rw [if_pos ⟨rfl, e⟩]; rw [if_pos e] at this; exact this
            · rw [if_neg (fun z => e z.2)]; rw [if_neg e] at this; exact this
        · rw [show (80 : Int32) = nI 80 from rfl, i_neq (by omega) (by decide)] at z
          omega
    · have e80 : len = 80 := by omega
      subst e80
      refine ⟨fun r m => r = 0 ∧ m = mem, CtI_of (by decide) (Nat.le_of_ble_eq_true rfl) rfl (t_X4_put_0 hG _ mem ?_), ?_⟩
      · rw [t1.1]
        exact ⟨fun z => absurd z (by decide), fun _ => ⟨rfl, rfl⟩⟩
      · rintro r m ⟨rfl, rfl⟩
        refine neg_ ?_
        refine CtI_of (by decide) (Nat.le_of_ble_eq_true rfl) rfl (t_X7_append_0 hG _ _ ⟨_, c_in' (nI k) 0 255 i_64_0 (d' := 255) rfl, ?_⟩)
        rintro y m2 ⟨rfl, rfl⟩
        rw [if_pos cin, t2.1]
        exact pos_ ⟨fun z => absurd rfl z, fun _ => ⟨rfl, I⟩⟩
  · rw [i_le, i_255] at z2; omega
theorem op_clearText (hG : Mn G) (I : Inv mem) : CtI l M_X6_clearText G [.ref (gA G 0)] mem (fun r m => CtI l M_X7_clearText G [.ref (gA G 327)] m (fun r' m' => r' = r ∧ Inv m')) := by
  have htx : Tx mem := by obtain ⟨_, -, -, -, -, q⟩ := I; exact q
  obtain ⟨len, tx, t1, t2⟩ := htx
  refine CtI_of (by decide) (Nat.le_of_ble_eq_true rfl) rfl (t_X6_clearText_0 hG mem ⟨_, c_size hG, ?_⟩)
  rintro r m ⟨rfl, rfl⟩
  refine ⟨fun m' => m' = wr m 76 0 0, CtV_of (by decide) (Nat.le_of_ble_eq_true rfl) rfl (t_X4_empty_0 hG m rfl), ?_⟩
  rintro m1 rfl
  refine CtI_of (by decide) (Nat.le_of_ble_eq_true rfl) rfl (t_X7_clearText_0 hG _ ⟨?_, ?_⟩)
  · rw [wr_n (by decide), t2.1, t1.1]
  · refine I.txt (fun a h1 h2 h3 h4 => by rw [wr_n h3, wr_n h1]) (fun j hj => by rw [wr_at, if_neg (by omega), wr_n (by decide)]) ⟨0, tx, ⟨by rw [wr_n (by decide), wr_at, if_pos ⟨rfl, rfl⟩]; rfl, by decide, fun k hk => absurd hk (Nat.not_lt_zero k)⟩, ⟨by rw [wr_at, if_pos ⟨rfl, rfl⟩]; rfl, by decide, fun k hk => absurd hk (Nat.not_lt_zero k)⟩⟩
theorem c_emptySlots (hG : Mn G) : CtV l M_X6_emptySlots G [.ref (gA G 0)] mem (fun m => (∀ s, s < 2 → m 326 s = 0) ∧ ∀ a, a ≠ 326 → m a = mem a) := by
  refine CtV_of (by decide) (Nat.le_of_ble_eq_true rfl) rfl (t_X6_emptySlots_0 hG mem ?_)
  refine up_loop (P := fun k => ∀ m : Mem, (∀ s, s < k → m 326 s = 0) → (∀ a, a ≠ 326 → m a = mem a) → XV l M_X6_emptySlots G _ m 2 [(0, .ref (gA G 0)), (1, .int (nI k))] []) (n := 2) (Nat.zero_le _) ?_ ?_ mem (fun s hs => absurd hs (Nat.not_lt_zero s)) (fun _ _ => rfl)
  · intro m h1 h2
    exact t_X6_emptySlots_2 hG _ m ⟨fun _ => ⟨h1, h2⟩, fun z => absurd (by decide) z⟩
  · intro k _ hk ih m h1 h2
    refine t_X6_emptySlots_2 hG _ m ⟨fun z => absurd ((i_nle (a := 2) (by decide) (by omega)).mp z) (by omega), fun _ => ⟨i_in hk (by decide), ?_⟩⟩
    rw [nI_1, i_cl (by omega)]
    refine ih _ (fun s hs => ?_) (fun a ha => by rw [wr_n ha]; exact h2 a ha)
    rw [wr_at]
    by_cases e : s = k
    · rw [if_pos ⟨rfl, e⟩]
    · rw [if_neg (fun z => e z.2)]; exact h1 s (by omega)
theorem rdW_le {tx : Nat → Nat} {len : Nat} (hl : len ≤ 80) : ∀ k p, p ≤ 80 → (rdW tx len k p).1 ≤ 80
  | 0, p, h => h
  | k + 1, p, h => by
    rw [rdW_s]
    have b := num_le (tx := tx) (a := 0) (b := 99) h hl
    generalize num tx len p 0 99 = R at b
    obtain ⟨p', o⟩ := R
    cases o with
    | none => exact b
    | some x => exact rdW_le hl k p' b
theorem edg_le {tx : Nat → Nat} {len n p : Nat} {E : Nat → Nat → Nat} (hl : len ≤ 80) (h : p ≤ 80) : (edg tx len n p E).1 ≤ 80 := by
  unfold edg
  cases e1 : tk tx len p 97 (96 + n) with
  | none => exact h
  | some u =>
    have b1 := (tk_some e1).1
    dsimp only
    cases e2 : tk tx len (p + 1) 97 (96 + n) with
    | none => show p + 1 ≤ 80; omega
    | some v =>
      have b2 := (tk_some e2).1
      dsimp only
      by_cases q : Cn E u v
      · rw [ifc_t q]; show p + 1 ≤ 80; omega
      · rw [ifc_f q]
        have b := num_le (tx := tx) (len := len) (p := p + 2) (a := 1) (b := 99) (by omega) hl
        generalize num tx len (p + 2) 1 99 = R at b
        obtain ⟨p', o⟩ := R
        cases o with
        | none => exact b
        | some x => exact b
theorem rdE_le {tx : Nat → Nat} {len n : Nat} (hl : len ≤ 80) : ∀ f p E, p ≤ 80 → (rdE tx len n f p E).1 ≤ 80
  | 0, p, E, h => h
  | f + 1, p, E, h => by
    rw [rdE_s]
    split
    · exact h
    · have b := edg_le (tx := tx) (n := n) (E := E) hl h
      generalize edg tx len n p E = R at b
      obtain ⟨p', o⟩ := R
      cases o with
      | none => exact b
      | some x => exact rdE_le hl f p' x b
theorem rd_le {tx : Nat → Nat} {len : Nat} (hl : len ≤ 80) : (rd tx len).1 ≤ 80 := by
  unfold rd
  cases e1 : tk tx len 0 70 70 with
  | none => exact Nat.zero_le 80
  | some u =>
    dsimp only
    have b := num_le (tx := tx) (len := len) (p := 1) (a := 1) (b := 12) (by decide) hl
    generalize num tx len 1 1 12 = R at b
    obtain ⟨p', o⟩ := R
    cases o with
    | none => exact b
    | some n =>
      dsimp only
      have b2 := rdW_le (tx := tx) hl n 3 (by decide)
      generalize rdW tx len n 3 = R2 at b2
      obtain ⟨p2, o2⟩ := R2
      cases o2 with
      | false => exact b2
      | true =>
        dsimp only
        have b3 := rdE_le (tx := tx) (n := n) hl 12 p2 (fun _ _ => 0) b2
        generalize rdE tx len n 12 p2 (fun _ _ => 0) = R3 at b3
        obtain ⟨p3, o3⟩ := R3
        cases o3 with
        | none => exact b3
        | some x => exact b3
theorem op_load (hG : Mn G) (I : Inv mem) : CtI l M_X6_load G [.ref (gA G 0)] mem (fun r m => CtI l M_X7_load G [.ref (gA G 327)] m (fun r' m' => r' = r ∧ Inv m')) := by
  have I0 := I
  obtain ⟨n0, -, ⟨nx, ct, ⟨x1, x2, x3⟩, -⟩, -, hob, ⟨len, tx, t1, t2⟩⟩ := I
  refine CtI_of (by decide) (Nat.le_of_ble_eq_true rfl) rfl (t_X6_load_0 hG mem ⟨_, c_readInto hG (f_30 hG) (by decide) t1, ?_⟩)
  rintro r m ⟨k1, k2, k3, k4⟩
  have K := Keep.rd k2 t1 k1
  have bl : ∀ {v : Nat}, v ≤ 255 → nI v ≠ -9 := fun h => i_n9 (by omega)
  rcases k3 with ⟨n, E, e1, rfl⟩ | ⟨e1, er⟩
  · -- the text is a setup
    obtain ⟨w, c, D, H, f1, f2, f3⟩ := k4 n E e1
    have hn := f3.le
    refine ⟨fun _ => ⟨_, c_become (f_1 hG) (f_30 hG) f1 (by decide), ?_⟩, fun z => absurd rfl z⟩
    rintro m1 ⟨g1, g2⟩
    refine ⟨_, c_forget hG, ?_⟩
    rintro m2 rfl
    refine ⟨_, c_emptySlots hG, ?_⟩
    rintro m3 ⟨s1, s2⟩
    have s3 : ∀ a, a ≠ 326 → a ≠ 79 → (a < 1 ∨ 16 ≤ a) → m3 a = m a := fun a h1 h2 h3 => by rw [s2 a h1, wr_n h2]; exact g2 a h3
    have F3 : FoAt m3 1 n w E := ⟨by rw [s2 _ (by omega), wr_n (by omega)]; exact g1.1, fun v hv => by rw [s2 _ (by omega), wr_n (by omega)]; exact g1.2.1 v hv, fun u v hu hv => by rw [s2 _ (by omega), wr_n (by omega)]; exact g1.2.2 u v hu hv⟩
    have s79 : m3 79 1 = nI nx := by rw [s2 _ (by omega), wr_at, if_neg (by omega), g2 79 (by omega), K.1 79 (by omega)]; exact x1
    have s79b : m3 79 2 = 0 := by rw [s2 _ (by omega), wr_at, if_pos ⟨rfl, rfl⟩]
    refine ⟨_, c_edgeCount (f_1 hG) F3 hn (fun u v _ _ => by have := f3.2.2.1 u v; omega), ?_⟩
    rintro r m4 ⟨rfl, rfl⟩
    -- the model
    have mo : ∀ a, 327 ≤ a → m4 a = mem a := fun a h => by rw [s3 a (by omega) (by omega) (by omega), k2 a (by omega) (by omega) (by omega)]
    have t2' : TxM m4 len tx := ⟨by rw [mo 327 (by omega)]; exact t2.1, t2.2.1, by rw [mo 328 (by omega)]; exact t2.2.2⟩
    refine CtI_of (by decide) (Nat.le_of_ble_eq_true rfl) rfl (t_X7_load_0 hG _ ⟨_, c_mReadText hG (r_331 hG) t2', ?_⟩)
    rintro r' m5 ⟨j1, j2, j3⟩
    obtain ⟨j4, w', c', D', H', j5, j6, j7⟩ := j3 n E e1
    have e9 : r' = -9 := by
      rcases j2 with ⟨n', E', q1, q2⟩ | ⟨q1, q2⟩
      · exact q2
      · rw [e1] at q1; cases q1
    refine ⟨fun _ => ⟨_, c_copy (r_331 hG) (r_329 hG) (by decide), ?_⟩, fun z => absurd e9 z⟩
    rintro m6 ⟨p1, p2⟩
    have n4 : m6 327 4 = nI n := by rw [p1 327 (by decide)]; exact j4
    have c01 : (0 : Int32).toNatClampNeg = 0 ∧ (1 : Int32).toNatClampNeg = 1 := ⟨rfl, rfl⟩
    rw [n4, c01.1, c01.2]
    generalize em : wr (wr (wr (wr m6 327 3 (nI n)) 327 9 0) 334 0 0) 334 1 0 = m7
    have v1 : ∀ a, a ≠ 327 → a ≠ 334 → m7 a = m6 a := fun a h1 h2 => by rw [← em, wr_n h2, wr_n h2, wr_n h1, wr_n h1]
    have v2 : ∀ j, j ≠ 3 → j ≠ 9 → m7 327 j = m6 327 j := fun j h1 h2 => by rw [← em, wr_n (by decide), wr_n (by decide), wr_at, if_neg (by omega), wr_at, if_neg (by omega)]
    have v3 : m7 327 3 = nI n := by rw [← em, wr_n (by decide), wr_n (by decide), wr_at, if_neg (by omega), wr_at, if_pos ⟨rfl, rfl⟩]
    have v4 : m7 327 9 = 0 := by rw [← em, wr_n (by decide), wr_n (by decide), wr_at, if_pos ⟨rfl, rfl⟩]
    have v5 : ∀ s, s < 2 → m7 334 s = 0 := fun s hs => by
      rw [← em, wr_at, wr_at]
      by_cases e : s = 1
      · rw [if_pos ⟨rfl, e⟩]
      · rw [if_neg (fun z => e z.2), if_pos ⟨rfl, by omega⟩]
    clear em
    have R7 : RoAt m7 329 w' E := by
      have := j5.eq (m' := m6) (r' := 329) p2
      exact this.eq' (v1 329 (by decide) (by decide))
    refine ⟨_, c_edgesOf (r_329 hG) R7 j7, ?_⟩
    rintro y m8 ⟨rfl, rfl⟩
    have cl : ∀ a, a < 327 → m8 a = m4 a := fun a h => by rw [v1 a (by omega) (by omega), p1 a (by omega), j1.1 a (by omega) (by omega) (by omega) (by omega)]
    have ml : ∀ a, 327 < a → a ≠ 329 → a ≠ 331 → a ≠ 334 → a < 336 → m8 a = mem a := fun a h1 h2 h3 h4 h5 => by rw [v1 a (by omega) h4, p1 a h2, j1.1 a (by omega) h3 (by omega) (by omega), mo a (by omega)]
    have mj : ∀ j, j ≠ 2 → j ≠ 3 → j ≠ 4 → j ≠ 9 → m8 327 j = mem 327 j := fun j h1 h2 h3 h4 => by rw [v2 j h2 h4, p1 327 (by decide), j1.2 j h1 h3, mo 327 (by omega)]
    refine ⟨rfl, n, ⟨v3, w, w', E, ⟨by rw [cl _ (by omega)]; exact F3.1, fun v hv => by rw [cl _ (by omega)]; exact F3.2.1 v hv, fun u v hu hv => by rw [cl _ (by omega)]; exact F3.2.2 u v hu hv⟩, R7, fun v hv => ⟨by rw [f2 v hv, j6 v hv], f3.2.1 v hv⟩, Gd.of f3⟩, ⟨nx, 0, ⟨by rw [cl 79 (by omega)]; exact s79, by rw [mj 10 (by decide) (by decide) (by decide) (by decide)]; exact x2, x3⟩, ⟨by rw [cl 79 (by omega)]; exact s79b, v4, by decide⟩, fun j hj => absurd hj (Nat.not_lt_zero j)⟩, fun s hs => ⟨by rw [cl 326 (by omega), s1 s hs, v5 s hs], Or.inl (v5 s hs), fun z => absurd (v5 s hs) z⟩, ?_, ?_⟩
    · exact hob.mv (fun a h1 h2 => by rw [cl a (by omega), s3 a (by omega) (by omega) (by omega), K.1 a (by omega)]) (ml 335 (by omega) (by omega) (by omega) (by omega) (by omega)) (mj 14 (by decide) (by decide) (by decide) (by decide))
    · exact ⟨len, tx, ⟨by rw [cl 76 (by omega), s3 76 (by omega) (by omega) (by omega)]; exact k1.1, k1.2.1, by rw [cl 77 (by omega), s3 77 (by omega) (by omega) (by omega)]; exact k1.2.2⟩, ⟨by rw [mj 1 (by decide) (by decide) (by decide) (by decide)]; exact t2.1, t2.2.1, by rw [ml 328 (by omega) (by omega) (by omega) (by omega) (by omega)]; exact t2.2.2⟩⟩
  · have bd : (rd tx len).1 ≤ 80 := rd_le t1.2.1
    have ne : ¬ r = -9 := by rw [er]; exact i_n9 (by omega)
    refine ⟨fun z => absurd z ne, fun _ => ?_⟩
    have t2' : TxM m len tx := ⟨by rw [K.2.2 1 (by decide) (by decide) (by decide) (by decide)]; exact t2.1, t2.2.1, by rw [K.1 328 (by omega)]; exact t2.2.2⟩
    refine CtI_of (by decide) (Nat.le_of_ble_eq_true rfl) rfl (t_X7_load_0 hG _ ⟨_, c_mReadText hG (r_331 hG) t2', ?_⟩)
    rintro r' m5 ⟨j1, j2, -⟩
    have e9 : ¬ r' = -9 := by
      rcases j2 with ⟨n', E', q1, q2⟩ | ⟨q1, q2⟩
      · rw [e1] at q1; cases q1
      · rw [q2]; exact i_n9 (by omega)
    exact ⟨fun z => absurd z e9, fun _ => ⟨rfl, I0.keep (K.tr (Keep.N j1))⟩⟩
end OP
