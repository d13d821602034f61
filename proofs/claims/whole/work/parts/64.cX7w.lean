/-! the model: errors, possible weights -/
abbrev Vx (n : Nat) (x : Int32) : Prop := 0 ≤ x.toInt ∧ x.toInt < n
theorem Vx.ex {n : Nat} {x : Int32} (h : Vx n x) : ∃ k, k < n ∧ x = nI k := i_arg h.1 h.2
theorem Vx.of {n k : Nat} (h : k < n) (hn : n ≤ 12) : Vx n (nI k) := vtx h hn
/-- what linkError answers -/
def LinkErr (n : Nat) (c : Nat → Nat → Prop) (u v x r : Int32) : Prop := (¬ (Vx n u ∧ Vx n v) ∧ r = -1) ∨ ∃ i j, (i < n ∧ j < n ∧ u = nI i ∧ v = nI j) ∧ ((¬ (1 ≤ x.toInt ∧ x.toInt ≤ 99) ∧ r = -2) ∨ ((1 ≤ x.toInt ∧ x.toInt ≤ 99) ∧ ((c i j ∧ r = -3) ∨ (¬ c i j ∧ r = 0))))
/-- what edgeError answers -/
def EdgeErr (n : Nat) (E : Nat → Nat → Nat) (u v x r : Int32) : Prop := (¬ (Vx n u ∧ Vx n v) ∧ r = -1) ∨ ∃ i j, (i < n ∧ j < n ∧ u = nI i ∧ v = nI j) ∧ ((¬ (1 ≤ x.toInt ∧ x.toInt ≤ 99) ∧ r = -2) ∨ ((1 ≤ x.toInt ∧ x.toInt ≤ 99) ∧ ((E i j = 0 ∧ r = -3) ∨ (0 < E i j ∧ r = 0))))
theorem i_64_99 : (99 : Int64).toInt = 99 := rfl
section KM
variable {l : Launch} {G : Gx} {mem : Mem} {n : Nat} {w : Nat → Nat} {E : Nat → Nat → Nat} {c : Nat → Nat → Prop} {D H : Nat → Nat → Nat}
theorem c_mLinkErr (hG : Mn G) {r : Nat} (hr : Ra G r) (h : RoAt mem r w E) (F : Fst n w E c D H) (h3 : mem 327 3 = nI n) (u v x : Int32) : CtI l M_X7_linkError G [.ref (gA G 327), .ref (gA G r), .int u, .int v, .int x] mem (fun y m => (∀ a, a ≠ 336 → a ≠ 337 → m a = mem a) ∧ LinkErr n c u v x y) := by
  have hn := F.le
  refine CtI_of (by decide) (Nat.le_of_ble_eq_true rfl) rfl (t_X7_linkError_0 hG hr _ _ _ mem ?_)
  refine ⟨_, c_isVertex hG h3 F.1.1 hn _, ?_⟩
  rintro y m ⟨rfl, rfl⟩
  by_cases qu : Vx n u
  · rw [if_pos qu]
    refine ⟨fun z => absurd z (by decide), fun _ => ⟨_, c_isVertex hG h3 F.1.1 hn _, ?_⟩⟩
    rintro y m ⟨rfl, rfl⟩
    by_cases qv : Vx n v
    · rw [if_pos qv]
      obtain ⟨i, hi, rfl⟩ := qu.ex
      obtain ⟨j, hj, rfl⟩ := qv.ex
      refine ⟨fun _ => ⟨_, c_in' x 1 99 i_64_1 i_64_99, ?_⟩, fun z => absurd z (by decide)⟩
      rintro y m ⟨rfl, rfl⟩
      by_cases qx : 1 ≤ x.toInt ∧ x.toInt ≤ 99
      · rw [if_pos qx]
        refine ⟨fun _ => ⟨_, c_isOneTree hG hr h F hi (by omega), ?_⟩, fun z => absurd z (by decide)⟩
        rintro y m2 ⟨k1, rfl⟩
        exact jn (fun q => ⟨k1, Or.inr ⟨i, j, ⟨hi, hj, rfl, rfl⟩, Or.inr ⟨qx, Or.inr ⟨q, rfl⟩⟩⟩⟩) (fun q => ⟨k1, Or.inr ⟨i, j, ⟨hi, hj, rfl, rfl⟩, Or.inr ⟨qx, Or.inl ⟨q, rfl⟩⟩⟩⟩)
      · rw [if_neg qx]
        exact ⟨fun z => absurd rfl z, fun _ => ⟨fun _ _ _ => rfl, Or.inr ⟨i, j, ⟨hi, hj, rfl, rfl⟩, Or.inl ⟨qx, rfl⟩⟩⟩⟩
    · rw [if_neg qv]
      exact ⟨fun z => absurd rfl z, fun _ => ⟨fun _ _ _ => rfl, Or.inl ⟨fun z => qv z.2, rfl⟩⟩⟩
  · rw [if_neg qu]
    exact ⟨fun _ => ⟨fun _ _ _ => rfl, Or.inl ⟨fun z => qu z.1, rfl⟩⟩, fun z => absurd rfl z⟩
theorem c_mEdgeErr (hG : Mn G) {r : Nat} (hr : Ra G r) (h : RoAt mem r w E) (F : Fst n w E c D H) (h3 : mem 327 3 = nI n) (u v x : Int32) : CtI l M_X7_edgeError G [.ref (gA G 327), .ref (gA G r), .int u, .int v, .int x] mem (fun y m => m = mem ∧ EdgeErr n E u v x y) := by
  have hn := F.le
  refine CtI_of (by decide) (Nat.le_of_ble_eq_true rfl) rfl (t_X7_edgeError_0 hG hr _ _ _ mem ?_)
  refine ⟨_, c_isVertex hG h3 F.1.1 hn _, ?_⟩
  rintro y m ⟨rfl, rfl⟩
  by_cases qu : Vx n u
  · rw [if_pos qu]
    refine ⟨fun z => absurd z (by decide), fun _ => ⟨_, c_isVertex hG h3 F.1.1 hn _, ?_⟩⟩
    rintro y m ⟨rfl, rfl⟩
    by_cases qv : Vx n v
    · rw [if_pos qv]
      obtain ⟨i, hi, rfl⟩ := qu.ex
      obtain ⟨j, hj, rfl⟩ := qv.ex
      refine ⟨fun _ => ⟨_, c_in' x 1 99 i_64_1 i_64_99, ?_⟩, fun z => absurd z (by decide)⟩
      rintro y m ⟨rfl, rfl⟩
      by_cases qx : 1 ≤ x.toInt ∧ x.toInt ≤ 99
      · rw [if_pos qx]
        refine ⟨fun _ => ⟨_, c_at, ?_⟩, fun z => absurd z (by decide)⟩
        rintro y m2 ⟨rfl, rfl⟩
        have be := F.2.2.1 i j
        rw [i_cl (by omega), h.2 i j (by omega) (by omega)]
        refine ⟨i_in (by omega) (by decide), fun q => ⟨rfl, Or.inr ⟨i, j, ⟨hi, hj, rfl, rfl⟩, Or.inr ⟨qx, Or.inr ⟨?_, rfl⟩⟩⟩⟩, fun q => ⟨rfl, Or.inr ⟨i, j, ⟨hi, hj, rfl, rfl⟩, Or.inr ⟨qx, Or.inl ⟨?_, rfl⟩⟩⟩⟩⟩
        · rcases Nat.eq_zero_or_pos (E i j) with e | e
          · exact absurd (by rw [e]; rfl) q
          · exact e
        · rw [i_eq, i_nI (by omega), i_0] at q; omega
      · rw [if_neg qx]
        exact ⟨fun z => absurd rfl z, fun _ => ⟨rfl, Or.inr ⟨i, j, ⟨hi, hj, rfl, rfl⟩, Or.inl ⟨qx, rfl⟩⟩⟩⟩
    · rw [if_neg qv]
      exact ⟨fun z => absurd rfl z, fun _ => ⟨rfl, Or.inl ⟨fun z => qv z.2, rfl⟩⟩⟩
  · rw [if_neg qu]
    exact ⟨fun _ => ⟨rfl, Or.inl ⟨fun z => qu z.1, rfl⟩⟩, fun z => absurd rfl z⟩
/-- the observation, when the edge has another weight -/
theorem ObH_rew (F : Fst n w E c D H) {a b k x y d : Nat} (e : 0 < E a b) {D' : Nat → Nat → Nat} (r1 : ∀ x y, c x y → (c x a → (D x a < D x b ↔ D y a < D y b)) → D' x y = D x y) (r2 : ∀ x y, c x a → c y a → D x a < D x b → ¬ D y a < D y b → D' x y = D x a + k + D b y) (r3 : ∀ x y, c x a → c y a → ¬ D x a < D x b → D y a < D y b → D' x y = D x b + k + D a y) : (c x y ∧ D' x y = d) ↔ ObH E c D a b k x y d := by
  have T := F.tD
  unfold ObH
  refine ⟨fun ⟨q, h⟩ => ⟨q, ?_⟩, fun ⟨q, h⟩ => ⟨q, ?_⟩⟩
  · by_cases o : Over c D a b x y
    · obtain ⟨o1, o2⟩ := o
      refine Or.inl ⟨⟨o1, o2⟩, ?_⟩
      have o3 : c y a := T.tr (T.sy q) o1
      by_cases p : D x a < D x b
      · have p2 : ¬ D y a < D y b := fun z => o2 ⟨fun _ => z, fun _ => p⟩
        have h1 := r2 x y o1 o3 p p2
        have h2 := T.across e o1 o3 p p2
        omega
      · have p2 : D y a < D y b := Classical.byContradiction fun z => o2 ⟨fun y => absurd y p, fun y => absurd y z⟩
        have h1 := r3 x y o1 o3 p p2
        have h2 := T.across e o3 o1 p2 p
        have s1 := T.ds q
        have s2 := T.ds (T.tr o1 (T.ed e))
        have s3 := T.ds o3
        omega
    · refine Or.inr ⟨o, ?_⟩
      have h1 := r1 x y q (fun z => Classical.byContradiction fun z2 => o ⟨z, z2⟩)
      omega
  · rcases h with ⟨⟨o1, o2⟩, h⟩ | ⟨o, h⟩
    · have o3 : c y a := T.tr (T.sy q) o1
      by_cases p : D x a < D x b
      · have p2 : ¬ D y a < D y b := fun z => o2 ⟨fun _ => z, fun _ => p⟩
        have h1 := r2 x y o1 o3 p p2
        have h2 := T.across e o1 o3 p p2
        omega
      · have p2 : D y a < D y b := Classical.byContradiction fun z => o2 ⟨fun y => absurd y p, fun y => absurd y z⟩
        have h1 := r3 x y o1 o3 p p2
        have h2 := T.across e o3 o1 p2 p
        have s1 := T.ds q
        have s2 := T.ds (T.tr o1 (T.ed e))
        have s3 := T.ds o3
        omega
    · have h1 := r1 x y q (fun z => Classical.byContradiction fun z2 => o ⟨z, z2⟩)
      omega
theorem updE_two {E : Nat → Nat → Nat} {u v a b : Nat} : updE (updE E u v a) u v b = updE E u v b := by
  funext x y
  unfold updE
  by_cases q : (x = u ∧ y = v) ∨ (x = v ∧ y = u)
  · rw [if_pos q, if_pos q]
  · rw [if_neg q, if_neg q, if_neg q]
theorem c_mPos (hG : Mn G) (hr : Ra G 329) (ht : Ra G 330) (h : RoAt mem 329 w E) (F : Fst n w E c D H) (h3 : mem 327 3 = nI n) {ct : Nat} {us vs ds : Nat → Nat} (ho : ObM mem ct us vs ds) (u v : Int32) : CtI l M_X7_possibleWeights G [.ref (gA G 327), .int u, .int v] mem (fun r m => TOut mem m ∧ ((∃ a b, a < n ∧ b < n ∧ u = nI a ∧ v = nI b ∧ 0 < E a b ∧ r = nI (Pos E c D a b us vs ds ct)) ∨ (¬ r = 0 ∧ EdgeErr n E u v 1 r))) := by
  have hn := F.le
  refine CtI_of (by decide) (Nat.le_of_ble_eq_true rfl) rfl (t_X7_possibleWeights_0 hG _ _ mem ?_)
  refine ⟨_, c_mEdgeErr hG hr h F h3 _ _ _, ?_⟩
  rintro r m0 ⟨rfl, he⟩
  refine ⟨fun z => ?_, fun z => ⟨fun _ _ _ _ => rfl, Or.inr ⟨z, he⟩⟩⟩
  subst z
  rcases he with ⟨-, q⟩ | ⟨a, b, ⟨ha, hb, rfl, rfl⟩, ⟨-, q⟩ | ⟨-, ⟨-, q⟩ | ⟨e, -⟩⟩⟩
  · exact absurd q (by decide)
  · exact absurd q (by decide)
  · exact absurd q (by decide)
  · refine ⟨_, c_copy hr ht (by decide), ?_⟩
    rintro m1 ⟨k1, k2⟩
    have hR1 : RoAt m1 330 w E := h.eq k2
    have s1 : smO (fun x => 1 ≤ x ∧ ∀ i, i < ct → ObH E c D a b x (us i) (vs i) (ds i)) (fun _ => 1) 1 = 0 := smO_none (fun x hx z => by have := z.1; omega)
    refine up_loop (P := fun k => ∀ (m : Mem) (E' : Nat → Nat → Nat), TOut m0 m → RoAt m 330 w E' → (∀ x, updE E' a b x = updE E a b x) → XI l M_X7_possibleWeights G _ m 35 [(0, .ref (gA G 327)), (1, .int (nI a)), (2, .int (nI b)), (4, .int (nI (smO (fun x => 1 ≤ x ∧ ∀ i, i < ct → ObH E c D a b x (us i) (vs i) (ds i)) (fun _ => 1) k))), (5, .int (nI k))] []) (n := 100) (i := 1) (by decide) ?_ ?_ m1 E (TOut.t k1) hR1 (fun _ => rfl) |> fun q => by rw [s1] at q; exact q
    · intro m E' o _ _
      exact t_X7_possibleWeights_35 hG _ _ _ _ m ⟨fun _ => ⟨o, Or.inl ⟨a, b, ha, hb, rfl, rfl, e, rfl⟩⟩, fun z => absurd (by decide) z⟩
    · intro k hk1 hk ih m E' o hR hE
      refine t_X7_possibleWeights_35 hG _ _ _ _ m ⟨fun z => absurd ((i_nlt (a := 99) (by decide) (by omega)).mp z) (by omega), fun _ => ⟨_, c_join ht hR (by omega) (by omega), ?_⟩⟩
      rintro m2 ⟨k3, hR2⟩
      rw [hE k] at hR2
      have o2 := o.tr (TOut.t k3)
      obtain ⟨D', F2, r1, r2, r3⟩ := F.rew e (by omega : 0 < k) (by omega : k ≤ 99)
      have n2 : m2 327 3 = nI n := by rw [o2 327 (by decide) (by decide) (by decide)]; exact h3
      have ho2 : ObM m2 ct us vs ds := ⟨by rw [o2 327 (by decide) (by decide) (by decide)]; exact ho.1, ho.2.1, fun i hi => by rw [o2 335 (by decide) (by decide) (by decide)]; exact ho.2.2 i hi⟩
      refine ⟨_, c_agrees hG ht (by decide) hR2 F2 n2 ho2, ?_⟩
      rintro r m3 ⟨k4, rfl⟩
      have o3 := o2.tr (TOut.f k4)
      have hR3 : RoAt m3 330 w (updE E a b k) := hR2.eq' (k4 330 (by decide) (by decide))
      have iff : (∀ i, i < ct → c (us i) (vs i) ∧ D' (us i) (vs i) = ds i) ↔ (1 ≤ k ∧ ∀ i, i < ct → ObH E c D a b k (us i) (vs i) (ds i)) := ⟨fun z => ⟨hk1, fun i hi => (ObH_rew F e r1 r2 r3).mp (z i hi)⟩, fun z i hi => (ObH_rew F e r1 r2 r3).mpr (z.2 i hi)⟩
      have ex : smO (fun x => 1 ≤ x ∧ ∀ i, i < ct → ObH E c D a b x (us i) (vs i) (ds i)) (fun _ => 1) (k + 1) = smO (fun x => 1 ≤ x ∧ ∀ i, i < ct → ObH E c D a b x (us i) (vs i) (ds i)) (fun _ => 1) k + ifc (1 ≤ k ∧ ∀ i, i < ct → ObH E c D a b k (us i) (vs i) (ds i)) 1 0 := rfl
      have ih3 := ih m3 (updE E a b k) o3 hR3 (fun x => updE_two)
      rw [nI_1 k]
      refine jn (fun q => ?_) (fun q => ?_)
      · rw [ex, ifc_f (fun z => q (iff.mpr z))] at ih3
        rw [Int32.add_zero]; exact ih3
      · rw [ex, ifc_t (iff.mp q)] at ih3
        rw [nI_1]; exact ih3
end KM
