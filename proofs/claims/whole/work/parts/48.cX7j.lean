/-! the model: meeting -/
section KM
variable {l : Launch} {G : Gx} {mem : Mem} {n k : Nat} {w : Nat → Nat} {E : Nat → Nat → Nat} {c : Nat → Nat → Prop} {D H : Nat → Nat → Nat}
theorem c_mMeeting (hG : Mn G) (hr : Ra G 329) (h : RoAt mem 329 w E) (F : Fst n w E c D H) (h3 : mem 327 3 = nI n) {u v t : Nat} (hu : u < n) (hv : v < n) (ht : t < n) : CtI l M_X7_meeting G [.ref (gA G 327), .int (nI u), .int (nI v), .int (nI t)] mem (fun r m => (∀ a, a ≠ 336 → a ≠ 337 → m a = mem a) ∧ ((¬ (c u v ∧ c u t) ∧ r = -9) ∨ ((c u v ∧ c u t) ∧ ∃ x, r = nI x ∧ Meet c D u v t x ∧ ∀ y, y < x → ¬ Meet c D u v t y))) := by
  have hn := F.le
  have T := F.tD
  refine CtI_of (by decide) (Nat.le_of_ble_eq_true rfl) rfl (t_X7_meeting_0 hG _ _ _ mem ?_)
  refine ⟨_, c_isVertex' hG h3 hn hu, ?_⟩
  rintro r m ⟨rfl, rfl⟩
  refine ⟨fun z => absurd z (by decide), fun _ => ⟨_, c_isVertex' hG h3 hn hv, ?_⟩⟩
  rintro r m ⟨rfl, rfl⟩
  refine ⟨fun z => absurd z (by decide), fun _ => ⟨_, c_isVertex' hG h3 hn ht, ?_⟩⟩
  rintro r m0 ⟨rfl, rfl⟩
  refine ⟨fun _ => ⟨_, c_isOneTree hG hr h F hu (by omega), ?_⟩, fun z => absurd z (by decide)⟩
  rintro r m1 ⟨a1, rfl⟩
  refine jn (fun q => ⟨a1, Or.inl ⟨fun z => q z.1, rfl⟩⟩) (fun q => ⟨_, c_isOneTree hG hr (h.eq' (a1 329 (by omega) (by omega))) F hu (by omega), ?_⟩)
  rintro r m2 ⟨a2, rfl⟩
  have o2 : ∀ a, a ≠ 336 → a ≠ 337 → m2 a = m0 a := fun a h1 h2 => (a2 a h1 h2).trans (a1 a h1 h2)
  refine jn' (fun q2 => ⟨o2, Or.inl ⟨fun z => q2 z.2, rfl⟩⟩) (fun q2 => ?_)
  have q3 := T.tr (T.sy q) q2
  obtain ⟨z, z1, z2, z3, z4⟩ := T.med _ (Nat.le_refl _) q q2
  have hz := T.v2 z1
  have mz : Meet c D u v t z := ⟨z1, z2, z3, z4⟩
  refine up_loop (P := fun k => ∀ m : Mem, (∀ a, a ≠ 336 → a ≠ 337 → m a = m0 a) → (∀ y, y < k → ¬ Meet c D u v t y) → XI l M_X7_meeting G _ m 58 [(0, .ref (gA G 327)), (1, .int (nI u)), (2, .int (nI v)), (3, .int (nI t)), (4, .int (nI k))] []) (n := z + 1) (Nat.zero_le _) ?_ ?_ m2 o2 (fun y hy => absurd hy (Nat.not_lt_zero _))
  · intro m _ i2
    exact absurd mz (i2 z (by omega))
  · intro k _ hk ih m i1 i2
    refine t_X7_meeting_58 hG _ _ _ _ m ?_
    rw [nI_1 k]
    have go : ¬ Meet c D u v t k → ∀ m' : Mem, (∀ a, a ≠ 336 → a ≠ 337 → m' a = m0 a) → XI l M_X7_meeting G (fun r m => (∀ a, a ≠ 336 → a ≠ 337 → m a = m0 a) ∧ ((¬ (c u v ∧ c u t) ∧ r = -9) ∨ ((c u v ∧ c u t) ∧ ∃ x, r = nI x ∧ Meet c D u v t x ∧ ∀ y, y < x → ¬ Meet c D u v t y))) m' 58 [(0, .ref (gA G 327)), (1, .int (nI u)), (2, .int (nI v)), (3, .int (nI t)), (4, .int (nI (k + 1)))] [] := fun b m' o => ih m' o (fun y hy => by
      by_cases e : y = k
      · rw [e]; exact b
      · exact i2 y (by omega))
    have ds : ∀ {a b : Nat}, c a b → D a b = D b a := fun q => T.ds q
    refine ⟨_, c_lies hG hr (h.eq' (i1 329 (by omega) (by omega))) F (by omega) hu hv q, ?_⟩
    rintro r m3 ⟨b1, rfl⟩
    have o3 : ∀ a, a ≠ 336 → a ≠ 337 → m3 a = m0 a := fun a h1 h2 => (b1 a h1 h2).trans (i1 a h1 h2)
    refine jn (fun e => go (fun y => e ⟨T.sy y.1, by rw [ds (T.sy y.1)]; exact y.2.1⟩) m3 o3) (fun e => ⟨_, c_lies hG hr (h.eq' (o3 329 (by omega) (by omega))) F (by omega) hu ht q2, ?_⟩)
    rintro r m4 ⟨b2, rfl⟩
    have o4 : ∀ a, a ≠ 336 → a ≠ 337 → m4 a = m0 a := fun a h1 h2 => (b2 a h1 h2).trans (o3 a h1 h2)
    refine jn (fun e2 => go (fun y => e2 ⟨T.sy y.1, by rw [ds (T.sy y.1)]; exact y.2.2.1⟩) m4 o4) (fun e2 => ⟨_, c_lies hG hr (h.eq' (o4 329 (by omega) (by omega))) F (by omega) hv ht q3, ?_⟩)
    rintro r m5 ⟨b5, rfl⟩
    have o5 : ∀ a, a ≠ 336 → a ≠ 337 → m5 a = m0 a := fun a h1 h2 => (b5 a h1 h2).trans (o4 a h1 h2)
    have kv : c k v := T.tr e.1 q
    refine jn' (fun e3 => go (fun y => e3 ⟨kv, by rw [ds kv]; exact y.2.2.2⟩) m5 o5) (fun e3 => ⟨o5, Or.inr ⟨⟨q, q2⟩, k, rfl, ⟨T.sy e.1, by rw [ds (T.sy e.1)]; exact e.2, by rw [ds (T.sy e.1)]; exact e2.2, by rw [ds (T.sy kv)]; exact e3.2⟩, i2⟩⟩)
end KM
