/-! the model: between -/
section KM
variable {l : Launch} {G : Gx} {mem : Mem} {n k : Nat} {w : Nat → Nat} {E : Nat → Nat → Nat} {c : Nat → Nat → Prop} {D H : Nat → Nat → Nat}
theorem c_lies (hG : Mn G) (hr : Ra G 329) (h : RoAt mem 329 w E) (F : Fst n w E c D H) {x a b : Nat} (hx : x < n) (ha : a < n) (hb : b < n) (q : c a b) : CtI l M_X7_liesBetween G [.ref (gA G 327), .int (nI x), .int (nI a), .int (nI b)] mem (fun r m => (∀ a, a ≠ 336 → a ≠ 337 → m a = mem a) ∧ r = ifc (c x a ∧ D x a + D x b = D a b) 1 0) := by
  have hn := F.le
  have T := F.tD
  refine CtI_of (by decide) (Nat.le_of_ble_eq_true rfl) rfl (t_X7_liesBetween_0 hG _ _ _ mem ?_)
  refine ⟨_, c_farOf hG hr h F ha (by omega), ?_⟩
  rintro r m1 ⟨a1, rfl⟩
  rw [ifc_t q]
  refine ⟨_, c_layFar hG hr (h.eq' (a1 329 (by omega) (by omega))) F hx, ?_⟩
  rintro m2 ⟨b1, b2⟩
  have o : ∀ a, a ≠ 336 → a ≠ 337 → m2 a = mem a := fun a h1 h2 => (b1 a h1 h2).trans (a1 a h1 h2)
  have ain := i_in (k := a) (n := 12) (by omega) (by decide)
  have bin := i_in (k := b) (n := 12) (by omega) (by decide)
  rw [i_cl (k := a) (by omega), i_cl (k := b) (by omega)]
  refine ⟨ain, ?_⟩
  by_cases e : c x a
  · have e2 : c x b := T.tr e q
    have d1 := F.dlt e
    have d2 := F.dlt e2
    have d3 := F.dlt q
    rw [((b2 a (by omega)).1 e).1, ((b2 b (by omega)).1 e2).1, nI_add]
    refine ⟨fun z => absurd z (i_n9 (by omega)), fun _ => ⟨ain, bin, fun z => ⟨o, ?_⟩, fun z => ⟨o, ?_⟩⟩⟩
    · rw [ifc_f (fun y => z (by rw [y.2]))]
    · rw [ifc_t ⟨e, (i_neq (by omega) (by omega)).mp z⟩]
  · rw [((b2 a (by omega)).2 e).1, ifc_f (fun y => e y.1)]
    exact ⟨fun _ => ⟨o, rfl⟩, fun z => absurd rfl z⟩
end KM
