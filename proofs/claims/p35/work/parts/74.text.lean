/-! the text and its loading -/
section OP
variable {l : Launch} {G : Gx} {mem m m' : Mem} {n : Nat} {S : Sta}
theorem c_size (hG : Mn G) : CtI l M_X4_size G [.ref (gA G 76)] mem (fun r m => m = mem ∧ r = mem 76 0) := CtI_of (by decide) (Nat.le_of_ble_eq_true rfl) rfl (t_X4_size_0 hG mem ⟨rfl, rfl⟩)
/-- only the text differs -/
theorem At.txt {t : Txt} (I : At m S) (h1 : ∀ a, a ≠ 76 → a ≠ 77 → m' a = m a) (h : TxC m' t.1 t.2) : At m' (texted S t) :=
  ⟨I.1.mv (fun a b1 b2 => h1 a (by omega) (by omega)), I.2.1.mv (fun a b1 b2 => h1 a (by omega) (by omega)), I.2.2.1.mv (fun a b1 b2 => h1 a (by omega) (by omega)), I.2.2.2.1.mv (fun a b1 b2 => h1 a (by omega) (by omega)), h⟩
theorem a_append (hG : Mn G) (I : At mem S) (c : Int32) : CtI l M_X6_append G [.ref (gA G 0), .int c] mem (fun r m => (¬ (0 ≤ c.toInt ∧ c.toInt ≤ 255) ∧ r = -2 ∧ At m S) ∨ ∃ k, k < 256 ∧ c = nI k ∧ ((S.2.2.2.2.2.1 < 80 ∧ r = nI (S.2.2.2.2.2.1 + 1) ∧ At m (texted S (S.2.2.2.2.2.1 + 1, updW S.2.2.2.2.2.2 S.2.2.2.2.2.1 k))) ∨ (¬ S.2.2.2.2.2.1 < 80 ∧ r = -4 ∧ At m S))) := by
  have t1 := I.2.2.2.2
  have hl := t1.2.1
  refine CtI_of (by decide) (Nat.le_of_ble_eq_true rfl) rfl (t_X6_append_0 hG _ mem ⟨fun z => Or.inl ⟨fun y => ?_, rfl, I⟩, fun z => ⟨fun z2 => ?_, fun z2 => Or.inl ⟨fun y => ?_, rfl, I⟩⟩⟩)
  · rw [i_lt, i_0] at z; omega
  · rw [i_lt, i_0] at z
    rw [i_le, i_255] at z2
    obtain ⟨k, hk, rfl⟩ : ∃ k : Nat, k < 256 ∧ c = nI k := i_arg (by omega) (by omega)
    by_cases q : S.2.2.2.2.2.1 < 80
    · have e0 : mem 76 0 = nI S.2.2.2.2.2.1 := t1.1
      refine ⟨fun r m => r = 1 ∧ m = wr (wr mem 77 S.2.2.2.2.2.1 (nI k)) 76 0 (nI (S.2.2.2.2.2.1 + 1)), CtI_of (by decide) (Nat.le_of_ble_eq_true rfl) rfl (t_X4_put_0 hG _ mem ?_), ?_⟩
      · rw [e0, show (80 : Int32) = nI 80 from rfl, i_nlt (by omega) (by decide), i_cl (by omega), wr_n (by decide), e0, nI_1]
        exact ⟨fun _ => ⟨i_in (by omega) (by decide), rfl, rfl⟩, fun z => absurd q z⟩
      · rintro r m ⟨rfl, em⟩
        refine pos' ⟨_, c_size hG, ?_⟩
        rintro r m1 ⟨rfl, rfl⟩
        have a1 : m1 76 0 = nI (S.2.2.2.2.2.1 + 1) := by rw [em, wr_at, if_pos ⟨rfl, rfl⟩]
        have b1 : ∀ a, a ≠ 76 → a ≠ 77 → m1 a = mem a := fun a h1 h2 => by rw [em, wr_n h1, wr_n h2]
        have c1 : ∀ j, m1 77 j = if j = S.2.2.2.2.2.1 then nI k else mem 77 j := fun j => by
          rw [em, wr_n (by decide), wr_at]
          by_cases e : j = S.2.2.2.2.2.1
          · rw [if_pos ⟨rfl, e⟩, if_pos e]
          · rw [if_neg (fun z => e z.2), if_neg e]
        clear em
        rw [a1]
        refine Or.inr ⟨k, hk, rfl, Or.inl ⟨q, rfl, I.txt b1 ⟨a1, show S.2.2.2.2.2.1 + 1 ≤ 80 by omega, fun j hj => ?_⟩⟩⟩
        have hj : j < S.2.2.2.2.2.1 + 1 := hj
        show m1 77 j = nI (updW S.2.2.2.2.2.2 S.2.2.2.2.2.1 k j) ∧ updW S.2.2.2.2.2.2 S.2.2.2.2.2.1 k j ≤ 255
        rw [c1]
        unfold updW
        by_cases e : j = S.2.2.2.2.2.1
        · rw [if_pos e, if_pos e]; exact ⟨rfl, by omega⟩
        · rw [if_neg e, if_neg e]
          exact t1.2.2 j (by omega)
    · have e80 : S.2.2.2.2.2.1 = 80 := by omega
      refine ⟨fun r m => r = 0 ∧ m = mem, CtI_of (by decide) (Nat.le_of_ble_eq_true rfl) rfl (t_X4_put_0 hG _ mem ?_), ?_⟩
      · rw [t1.1, e80]
        exact ⟨fun z => absurd z (by decide), fun _ => ⟨rfl, rfl⟩⟩
      · rintro r m ⟨rfl, rfl⟩
        exact neg_ (Or.inr ⟨k, hk, rfl, Or.inr ⟨q, rfl, I⟩⟩)
  · rw [i_le, i_255] at z2; omega
theorem a_clearText (hG : Mn G) (I : At mem S) : CtI l M_X6_clearText G [.ref (gA G 0)] mem (fun r m => r = nI S.2.2.2.2.2.1 ∧ At m (texted S (0, S.2.2.2.2.2.2))) := by
  have t1 := I.2.2.2.2
  refine CtI_of (by decide) (Nat.le_of_ble_eq_true rfl) rfl (t_X6_clearText_0 hG mem ⟨_, c_size hG, ?_⟩)
  rintro r m ⟨rfl, rfl⟩
  refine ⟨fun m' => m' = wr m 76 0 0, CtV_of (by decide) (Nat.le_of_ble_eq_true rfl) rfl (t_X4_empty_0 hG m rfl), ?_⟩
  rintro m1 rfl
  exact ⟨t1.1, I.txt (fun a h1 h2 => wr_n h1) ⟨by rw [wr_at, if_pos ⟨rfl, rfl⟩]; rfl, show 0 ≤ 80 by decide, fun k hk => absurd hk (Nat.not_lt_zero k)⟩⟩
theorem c_emptySlots (hG : Mn G) : CtV l M_X6_emptySlots G [.ref (gA G 0)] mem (fun m => (∀ s, s < 2 → m 326 s = 0) ∧ ∀ a, a ≠ 326 → m a = mem a) := by
  refine CtV_of (by decide) (Nat.le_of_ble_eq_true rfl) rfl (t_X6_emptySlots_0 hG mem ?_)
  refine up_loop (P := fun k => ∀ m : Mem, (∀ s, s < k → m 326 s = 0) → (∀ a, a ≠ 326 → m a = mem a) → XV l M_X6_emptySlots G _ m 2 [(0, .ref (gA G 0)), (1, .int (nI k))] []) (n := 2) (Nat.zero_le _) ?_ ?_ mem (fun s hs => absurd hs (Nat.not_lt_zero s)) (fun _ _ => rfl)
  · intro m h1 h2
    exact t_X6_emptySlots_2 hG _ m ⟨fun _ => ⟨h1, h2⟩, fun z => absurd (by decide) z⟩
  · intro k _ hk ih m h1 h2
    refine t_X6_emptySlots_2 hG _ m ⟨fun z => absurd ((i_nle (a := 2) (by decide) (by omega)).mp z) (by omega), fun _ => ⟨i_in hk (by decide), ?_⟩⟩
    rw [nI_1, i_cl (by omega)]
    refine ih _ (fun s hs => ?_) (fun a ha => by rw [wr_n ha]; exact h2 a ha)
    rw [wr_at]
    by_cases e : s = k
    · rw [if_pos ⟨rfl, e⟩]
    · rw [if_neg (fun z => e z.2)]; exact h1 s (by omega)
theorem rdW_le {tx : Nat → Nat} {len : Nat} (hl : len ≤ 80) : ∀ k p, p ≤ 80 → (rdW tx len k p).1 ≤ 80
  | 0, p, h => h
  | k + 1, p, h => by
    rw [rdW_s]
    have b := num_le (tx := tx) (a := 0) (b := 99) h hl
    generalize num tx len p 0 99 = R at b
    obtain ⟨p', o⟩ := R
    cases o with
    | none => exact b
    | some x => exact rdW_le hl k p' b
theorem edg_le {tx : Nat → Nat} {len n p : Nat} {E : Nat → Nat → Nat} (hl : len ≤ 80) (h : p ≤ 80) : (edg tx len n p E).1 ≤ 80 := by
  unfold edg
  cases e1 : tk tx len p 97 (96 + n) with
  | none => exact h
  | some u =>
    have b1 := (tk_some e1).1
    dsimp only
    cases e2 : tk tx len (p + 1) 97 (96 + n) with
    | none => show p + 1 ≤ 80; omega
    | some v =>
      have b2 := (tk_some e2).1
      dsimp only
      by_cases q : Cn E u v
      · rw [ifc_t q]; show p + 1 ≤ 80; omega
      · rw [ifc_f q]
        have b := num_le (tx := tx) (len := len) (p := p + 2) (a := 1) (b := 99) (by omega) hl
        generalize num tx len (p + 2) 1 99 = R at b
        obtain ⟨p', o⟩ := R
        cases o with
        | none => exact b
        | some x => exact b
theorem rdE_le {tx : Nat → Nat} {len n : Nat} (hl : len ≤ 80) : ∀ f p E, p ≤ 80 → (rdE tx len n f p E).1 ≤ 80
  | 0, p, E, h => h
  | f + 1, p, E, h => by
    rw [rdE_s]
    split
    · exact h
    · have b := edg_le (tx := tx) (n := n) (E := E) hl h
      generalize edg tx len n p E = R at b
      obtain ⟨p', o⟩ := R
      cases o with
      | none => exact b
      | some x => exact rdE_le hl f p' x b
theorem rd_le {tx : Nat → Nat} {len : Nat} (hl : len ≤ 80) : (rd tx len).1 ≤ 80 := by
  unfold rd
  cases e1 : tk tx len 0 70 70 with
  | none => exact Nat.zero_le 80
  | some u =>
    dsimp only
    have b := num_le (tx := tx) (len := len) (p := 1) (a := 1) (b := 12) (by decide) hl
    generalize num tx len 1 1 12 = R at b
    obtain ⟨p', o⟩ := R
    cases o with
    | none => exact b
    | some n =>
      dsimp only
      have b2 := rdW_le (tx := tx) hl n 3 (by decide)
      generalize rdW tx len n 3 = R2 at b2
      obtain ⟨p2, o2⟩ := R2
      cases o2 with
      | false => exact b2
      | true =>
        dsimp only
        have b3 := rdE_le (tx := tx) (n := n) hl 12 p2 (fun _ _ => 0) b2
        generalize rdE tx len n 12 p2 (fun _ _ => 0) = R3 at b3
        obtain ⟨p3, o3⟩ := R3
        cases o3 with
        | none => exact b3
        | some x => exact b3
theorem a_load (hG : Mn G) (I : At mem S) : CtI l M_X6_load G [.ref (gA G 0)] mem (fun r m => (∃ n E, (rd S.2.2.2.2.2.2 S.2.2.2.2.2.1).2 = some (n, E) ∧ r = nI (cntE E n n) ∧ At m (n, (wOf S.2.2.2.2.2.2, E), [], (fun _ => none), S.2.2.2.2)) ∨ ((rd S.2.2.2.2.2.2 S.2.2.2.2.2.1).2 = none ∧ r = -3 ∧ At m S)) := by
  have I0 := I
  have t1 := I.2.2.2.2
  obtain ⟨i1, ⟨nx, x1, x2, -⟩, -, i4, i5⟩ := I
  refine CtI_of (by decide) (Nat.le_of_ble_eq_true rfl) rfl (t_X6_load_0 hG mem ⟨_, c_readInto hG (f_30 hG) (by decide) t1, ?_⟩)
  rintro r m ⟨k1, k2, k3, k4⟩
  have K := Keep.rd k2 t1 k1
  rcases k3 with ⟨n, E, e1, rfl⟩ | ⟨e1, er⟩
  · obtain ⟨w, c, D, H, f1, f2, f3⟩ := k4 n E e1
    have hn := f3.le
    refine ⟨fun _ => ⟨_, c_become (f_1 hG) (f_30 hG) f1 (by decide), ?_⟩, fun z => absurd rfl z⟩
    rintro m1 ⟨g1, g2⟩
    refine ⟨_, c_forget hG, ?_⟩
    rintro m2 rfl
    refine ⟨_, c_emptySlots hG, ?_⟩
    rintro m3 ⟨s1, s2⟩
    have s3 : ∀ a, a ≠ 326 → a ≠ 79 → (a < 1 ∨ 16 ≤ a) → m3 a = m a := fun a h1 h2 h3 => by rw [s2 a h1, wr_n h2]; exact g2 a h3
    have F3 : FoAt m3 1 n w E := g1.mv (fun a b1 b2 => by rw [s2 a (by omega), wr_n (by omega)])
    have s79 : m3 79 1 = nI nx := by rw [s2 _ (by omega), wr_at, if_neg (by omega), g2 79 (by omega), K.1 79 (by omega)]; exact x1
    have s79b : m3 79 2 = 0 := by rw [s2 _ (by omega), wr_at, if_pos ⟨rfl, rfl⟩]
    refine ⟨_, c_edgeCount (f_1 hG) F3 hn (fun u v _ _ => by have := f3.2.2.1 u v; omega), ?_⟩
    rintro r m4 ⟨rfl, rfl⟩
    refine Or.inl ⟨n, E, e1, rfl, ⟨w, F3, f2, fun v hv => (show wOf S.2.2.2.2.2.2 v ≤ 99 by rw [← f2 v hv]; exact f3.2.1 v hv), Gd.of f3⟩, ⟨nx, s79, x2, s79b, Nat.zero_le 14, fun j z hj => (by have hj : ([] : List Fw)[j]? = some z := hj; simp at hj)⟩, fun k hk => ⟨fun _ => s1 k hk, fun y hy => (by cases hy)⟩, i4.mv (fun a h1 h2 => by rw [s3 a (by omega) (by omega) (by omega), K.1 a (by omega)]), i5.mv (by rw [s3 76 (by omega) (by omega) (by omega)]; exact K.2) (by rw [s3 77 (by omega) (by omega) (by omega), K.1 77 (by omega)])⟩
  · have bd : (rd S.2.2.2.2.2.2 S.2.2.2.2.2.1).1 ≤ 80 := rd_le t1.2.1
    have ne : ¬ r = -9 := by rw [er]; exact i_n9 (by omega)
    exact ⟨fun z => absurd z ne, fun _ => Or.inr ⟨e1, rfl, I0.keep K⟩⟩
end OP
