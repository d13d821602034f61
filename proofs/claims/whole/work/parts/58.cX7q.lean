/-! the model: an edge of the text -/
/-- outside the reader's cells nothing changed -/
def OtM (mem m : Mem) : Prop := (∀ a, a ≠ 327 → a ≠ 331 → a ≠ 336 → a ≠ 337 → m a = mem a) ∧ ∀ j, j ≠ 2 → m 327 j = mem 327 j
theorem OtM.tr {m1 m2 m3 : Mem} (h : OtM m1 m2) (h2 : OtM m2 m3) : OtM m1 m3 := ⟨fun a a1 a2 a3 a4 => (h2.1 a a1 a2 a3 a4).trans (h.1 a a1 a2 a3 a4), fun j hj => (h2.2 j hj).trans (h.2 j hj)⟩
theorem OtM.rf {m : Mem} : OtM m m := ⟨fun _ _ _ _ _ => rfl, fun _ _ => rfl⟩
theorem PlM.ot {mem m : Mem} {p : Nat} (h : PlM mem m p) : OtM mem m := ⟨fun a a1 _ _ _ => h.1 a a1, h.2.1⟩
theorem TxM.ot {mem m : Mem} {len : Nat} {tx : Nat → Nat} (h : TxM mem len tx) (q : OtM mem m) : TxM m len tx := ⟨by rw [q.2 1 (by decide)]; exact h.1, h.2.1, fun k hk => by rw [q.1 328 (by decide) (by decide) (by decide) (by decide)]; exact h.2.2 k hk⟩
/-- vertices that have a less one in their tree -/
noncomputable def Jn (n : Nat) (c : Nat → Nat → Prop) : Nat := smO (fun v => ∃ u, u < v ∧ c u v) (fun _ => 1) n
theorem least_of {p : Nat → Prop} : ∀ k, p k → ∃ a, a ≤ k ∧ p a ∧ ∀ y, y < a → ¬ p y := by
  intro k
  induction k using Nat.strongRecOn with
  | ind k ih =>
    intro hk
    by_cases q : ∃ y, y < k ∧ p y
    · obtain ⟨y, h1, h2⟩ := q
      obtain ⟨a, b1, b2, b3⟩ := ih y h1 h2
      exact ⟨a, by omega, b2, b3⟩
    · exact ⟨k, Nat.le_refl _, hk, fun y hy z => q ⟨y, hy, z⟩⟩
theorem Jn_lt {n : Nat} {c : Nat → Nat → Prop} (hn : 1 ≤ n) : Jn n c < n := by
  have a := smO_lt (p := fun _ => True) (q := fun v => ∃ u, u < v ∧ c u v) (f := fun _ => 1) (k := n) (x := 0) (fun _ _ _ => trivial) (by omega) trivial (fun ⟨u, h, _⟩ => Nat.not_lt_zero u h) (by decide)
  have b := smO_le (p := fun _ : Nat => True) (f := fun _ => 1) (B := 1) (k := n) (fun _ _ _ => Nat.le_refl _)
  unfold Jn
  omega
theorem Jn_link {n : Nat} {w : Nat → Nat} {E : Nat → Nat → Nat} {c c' : Nat → Nat → Prop} {D H : Nat → Nat → Nat} (F : Fst n w E c D H) {u v : Nat} (hu : u < n) (hv : v < n) (hn : ¬ c u v) (h1 : ∀ x y, c x y → c' x y) (h2 : ∀ x y, c x u → c y v → c' x y ∧ c' y x) : Jn n c < Jn n c' := by
  have T := F.tD
  obtain ⟨a, a1, a2, a3⟩ := least_of (p := fun x => c x u) u (T.rf hu)
  obtain ⟨b, b1, b2, b3⟩ := least_of (p := fun x => c x v) v (T.rf hv)
  have ne : a ≠ b := fun e => hn (T.tr (T.sy a2) (by rw [e]; exact b2))
  have mono : ∀ y, y < n → (∃ u, u < y ∧ c u y) → ∃ u, u < y ∧ c' u y := fun y _ ⟨x, q1, q2⟩ => ⟨x, q1, h1 x y q2⟩
  unfold Jn
  rcases Nat.lt_or_gt_of_ne ne with q | q
  · exact smO_lt (x := b) mono (by omega) ⟨a, q, (h2 a b a2 b2).1⟩ (fun ⟨x, q1, q2⟩ => b3 x q1 (T.tr q2 b2)) (by decide)
  · exact smO_lt (x := a) mono (by omega) ⟨b, q, (h2 a b a2 b2).2⟩ (fun ⟨x, q1, q2⟩ => a3 x q1 (T.tr q2 a2)) (by decide)
section KM
variable {l : Launch} {G : Gx} {mem : Mem} {n len p : Nat} {tx : Nat → Nat} {w : Nat → Nat} {E : Nat → Nat → Nat} {c : Nat → Nat → Prop} {D H : Nat → Nat → Nat}
theorem c_mReadEdge (hG : Mn G) (ht : TxM mem len tx) (hp : mem 327 2 = nI p) (hp2 : p ≤ 80) (h4 : mem 327 4 = nI n) (hr : Ra G 331) (hR : RoAt mem 331 w E) (F : Fst n w E c D H) : CtI l M_X7_readEdge G [.ref (gA G 327)] mem (fun r m => OtM mem m ∧ m 327 2 = nI (edg tx len n p E).1 ∧ (edg tx len n p E).1 ≤ 80 ∧ ((∃ E', (edg tx len n p E).2 = some E' ∧ r = 1 ∧ RoAt m 331 w E' ∧ ∃ c' D' H', Fst n w E' c' D' H' ∧ Jn n c < Jn n c') ∨ ((edg tx len n p E).2 = none ∧ r = 0))) := by
  have hn := F.le
  have hn1 := F.1.1
  have hl := ht.2.1
  have e4 : nI n - 1 = nI (n - 1) := by rw [show (1 : Int32) = nI 1 from rfl, pk_sub (by omega)]
  have e97 : 97 + (n - 1) = 96 + n := by omega
  refine CtI_of (by decide) (Nat.le_of_ble_eq_true rfl) rfl (t_X7_readEdge_0 hG mem ?_)
  rw [h4, e4]
  refine ⟨_, c_mSign hG ht hp hp2 (f := 97) (a := 0) (b := n - 1) (by decide) (by decide) (by omega), ?_⟩
  rw [Nat.add_zero, e97]
  intro r m1 hr1
  unfold edg
  rcases hr1 with ⟨u, e1, rfl, hm1⟩ | ⟨e1, rfl, rfl⟩
  · obtain ⟨a1, a2, a3, a4⟩ := tk_some e1
    have ht1 := ht.pl hm1
    have hu : u < n := by omega
    rw [e1, Nat.zero_add]
    dsimp only
    refine ⟨fun _ => ?_, fun z => absurd z (i_n9 (by omega))⟩
    rw [hm1.2.1 4 (by decide), h4, e4]
    refine ⟨_, c_mSign hG ht1 hm1.2.2 (by omega) (f := 97) (a := 0) (b := n - 1) (by decide) (by decide) (by omega), ?_⟩
    rw [Nat.add_zero, e97]
    intro r m2 hr2
    rcases hr2 with ⟨v, e2, rfl, hm2⟩ | ⟨e2, rfl, rfl⟩
    · obtain ⟨b1, b2, b3, b4⟩ := tk_some e2
      have h2 := hm1.tr hm2
      have ht2 := ht.pl h2
      have hv : v < n := by omega
      have hR2 : RoAt m2 331 w E := hR.eq' (h2.1 331 (by decide))
      rw [e2, Nat.zero_add]
      dsimp only
      refine ⟨fun _ => ⟨_, c_isOneTree hG hr hR2 F hu (by omega), ?_⟩, fun z => absurd z (i_n9 (by omega))⟩
      rintro r m3 ⟨o3, rfl⟩
      have ot3 : OtM m2 m3 := ⟨fun a _ _ q1 q2 => o3 a q1 q2, fun j _ => by rw [o3 327 (by decide) (by decide)]⟩
      have p3 : m3 327 2 = nI (p + 1 + 1) := by rw [o3 327 (by decide) (by decide)]; exact hm2.2.2
      refine jn (fun q => ?_) (fun q => ?_)
      · rw [ifc_f (fun z => q ((Cn_of F hu).mp z))]
        have ht3 := ht2.ot ot3
        refine ⟨_, c_mNumber hG ht3 p3 (by omega) (least := 1) (g := 99) (by decide) (by decide), ?_⟩
        intro r m4 hr4
        obtain ⟨hm4, hr4⟩ := hr4
        have bd : (num tx len (p + 1 + 1) 1 99).1 ≤ 80 := num_le (by omega) hl
        have eq2 : p + 1 + 1 = p + 2 := rfl
        rw [eq2] at hm4 hr4 bd
        have ot4 := (h2.ot.tr ot3).tr hm4.ot
        generalize e5 : num tx len (p + 2) 1 99 = R at hm4 hr4 bd ⊢
        obtain ⟨p5, o⟩ := R
        rcases hr4 with ⟨x, ev, rfl⟩ | ⟨ev, rfl⟩
        · dsimp only at ev
          subst ev
          dsimp only at hm4 bd ⊢
          obtain ⟨d1, d2, d3, d4, d5, d6, d7, d8, d9, d10⟩ := num_some e5
          have hx : 1 ≤ x ∧ x ≤ 99 := by
            have : 99 / 10 = 9 := rfl
            have : 99 % 10 = 9 := rfl
            omega
          have hR4 : RoAt m4 331 w E := hR2.eq' (by rw [hm4.1 331 (by decide), o3 331 (by decide) (by decide)])
          refine ⟨fun _ => ⟨_, c_join hr hR4 (by omega) (by omega), ?_⟩, fun z => absurd z (i_n9 (by omega))⟩
          rintro m5 ⟨k1, k2⟩
          obtain ⟨D', H', F', -⟩ := F.link hu hv q hx.1 hx.2
          refine ⟨ot4.tr ⟨fun a _ q2 _ _ => k1 a q2, fun j _ => by rw [k1 327 (by decide)]⟩, by rw [k1 327 (by decide)]; exact hm4.2.2, bd, Or.inl ⟨_, rfl, rfl, k2, _, D', H', F', ?_⟩⟩
          exact Jn_link F hu hv q (fun x y z => Or.inl z) (fun x y z z2 => ⟨Or.inr (Or.inl ⟨z, z2⟩), Or.inr (Or.inr ⟨z2, z⟩)⟩)
        · dsimp only at ev
          subst ev
          dsimp only at hm4 bd ⊢
          exact ⟨fun z => absurd rfl z, fun _ => ⟨ot4, hm4.2.2, bd, Or.inr ⟨rfl, rfl⟩⟩⟩
      · rw [ifc_t ((Cn_of F hu).mpr q), p3]
        have sub : nI (p + 1 + 1) - 1 = nI (p + 1) := by rw [show (1 : Int32) = nI 1 from rfl, pk_sub (by omega)]; rfl
        rw [sub]
        exact ⟨(h2.ot.tr ot3).tr (PlM.w rfl).ot, by rw [wr_at, if_pos ⟨rfl, rfl⟩], by show p + 1 ≤ 80; omega, Or.inr ⟨rfl, rfl⟩⟩
    · rw [e2]
      exact ⟨fun z => absurd rfl z, fun _ => ⟨hm1.ot, hm1.2.2, by show p + 1 ≤ 80; omega, Or.inr ⟨rfl, rfl⟩⟩⟩
  · rw [e1]
    exact ⟨fun z => absurd rfl z, fun _ => ⟨OtM.rf, hp, hp2, Or.inr ⟨rfl, rfl⟩⟩⟩
end KM
