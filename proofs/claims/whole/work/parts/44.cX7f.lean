/-! the model's distances -/
section KM
variable {l : Launch} {G : Gx} {mem : Mem} {n k : Nat} {w : Nat → Nat} {E : Nat → Nat → Nat} {c : Nat → Nat → Prop} {D H : Nat → Nat → Nat}
/-- only the model's distance rows may differ -/
def FOut (mem m : Mem) : Prop := ∀ a, a ≠ 336 → a ≠ 337 → a ≠ 338 → m a = mem a
theorem FOut.rf : FOut mem mem := fun _ _ _ _ => rfl
theorem FOut.tr {m1 m2 m3 : Mem} (h : FOut m1 m2) (h2 : FOut m2 m3) : FOut m1 m3 := fun a a1 a2 a3 => (h2 a a1 a2 a3).trans (h a a1 a2 a3)
theorem FOut.ro {m1 m2 : Mem} (h : FOut m1 m2) {r : Nat} (hr : r < 336) (q : RoAt m1 r w E) : RoAt m2 r w E := q.eq' (h r (by omega) (by omega) (by omega))
theorem FOut.n3 {m1 m2 : Mem} (h : FOut m1 m2) (q : m1 327 3 = nI n) : m2 327 3 = nI n := by rw [h 327 (by omega) (by omega) (by omega)]; exact q
theorem c_farOf (hG : Mn G) {r : Nat} (hr : Ra G r) (h : RoAt mem r w E) (F : Fst n w E c D H) {u v : Nat} (hu : u < n) (hv : v < 12) : CtI l M_X7_farOf G [.ref (gA G 327), .ref (gA G r), .int (nI u), .int (nI v)] mem (fun x m => (∀ a, a ≠ 336 → a ≠ 337 → m a = mem a) ∧ x = ifc (c u v) (nI (D u v)) (-9)) := by
  refine CtI_of (by decide) (Nat.le_of_ble_eq_true rfl) rfl (t_X7_farOf_0 hG hr _ _ mem ?_)
  refine ⟨_, c_layFar hG hr h F hu, ?_⟩
  rintro m1 ⟨a1, a2⟩
  rw [i_cl (by omega)]
  refine ⟨i_in hv (by decide), a1, ?_⟩
  by_cases q : c u v
  · rw [ifc_t q]; exact ((a2 v hv).1 q).1
  · rw [ifc_f q]; exact ((a2 v hv).2 q).1
theorem c_isOneTree (hG : Mn G) {r : Nat} (hr : Ra G r) (h : RoAt mem r w E) (F : Fst n w E c D H) {u v : Nat} (hu : u < n) (hv : v < 12) : CtI l M_X7_isOneTree G [.ref (gA G 327), .ref (gA G r), .int (nI u), .int (nI v)] mem (fun x m => (∀ a, a ≠ 336 → a ≠ 337 → m a = mem a) ∧ x = ifc (c u v) 1 0) := by
  refine CtI_of (by decide) (Nat.le_of_ble_eq_true rfl) rfl (t_X7_isOneTree_0 hG hr _ _ mem ?_)
  refine ⟨_, c_farOf hG hr h F hu hv, ?_⟩
  rintro x m ⟨a1, rfl⟩
  by_cases q : c u v
  · rw [ifc_t q, ifc_t q]
    exact ⟨fun z => absurd z (i_n9 (by have := F.dlt q; omega)), fun _ => ⟨a1, rfl⟩⟩
  · rw [ifc_f q, ifc_f q]
    exact ⟨fun _ => ⟨a1, rfl⟩, fun z => absurd rfl z⟩
theorem c_eccOf (hG : Mn G) {r : Nat} (hr : Ra G r) (h : RoAt mem r w E) (F : Fst n w E c D H) (h3 : mem 327 3 = nI n) {v : Nat} (hv : v < n) : CtI l M_X7_eccentricityOf G [.ref (gA G 327), .ref (gA G r), .int (nI v)] mem (fun x m => (∀ a, a ≠ 336 → a ≠ 337 → m a = mem a) ∧ x = nI (Ecc n c D v)) := by
  have hn := F.le
  refine CtI_of (by decide) (Nat.le_of_ble_eq_true rfl) rfl (t_X7_eccentricityOf_0 hG hr _ mem ?_)
  refine ⟨_, c_layFar hG hr h F hv, ?_⟩
  rintro m1 ⟨a1, a2⟩
  have b3 : m1 327 3 = nI n := by rw [a1 327 (by omega) (by omega)]; exact h3
  have bd : ∀ j, mxO (c v) (D v) j ≤ 1089 := fun j => mxO_le (fun _ _ q => F.dlt q)
  refine up_loop (P := fun j => XI l M_X7_eccentricityOf G _ m1 11 [(0, .ref (gA G 327)), (3, .int (nI (mxO (c v) (D v) j))), (4, .int (nI j))] []) (n := n) (Nat.zero_le _) ?_ ?_
  · refine t_X7_eccentricityOf_11 hG hr _ _ m1 ?_
    rw [b3]
    exact ⟨fun _ => ⟨a1, rfl⟩, fun z => absurd ((i_nle (by omega) (by omega)).mpr (Nat.le_refl _)) z⟩
  · intro j _ hj ih
    refine t_X7_eccentricityOf_11 hG hr _ _ m1 ?_
    have b1 := bd j
    rw [b3, i_cl (by omega), nI_1 j]
    have ex : mxO (c v) (D v) (j + 1) = ifc (c v j) (max (mxO (c v) (D v) j) (D v j)) (mxO (c v) (D v) j) := rfl
    refine ⟨fun z => absurd ((i_nle (by omega) (by omega)).mp z) (by omega), fun _ => ⟨i_in (by omega) (by decide), fun z => ?_, fun z => ⟨i_in (by omega) (by decide), ?_⟩⟩⟩
    · by_cases q : c v j
      · have b2 := F.dlt q
        rw [((a2 j (by omega)).1 q).1] at z
        have z2 := (i_nle (by omega) (by omega)).mp z
        rw [ex, ifc_t q, Nat.max_eq_left z2] at ih
        exact ih
      · rw [ex, ifc_f q] at ih
        exact ih
    · by_cases q : c v j
      · have b2 := F.dlt q
        rw [((a2 j (by omega)).1 q).1] at z ⊢
        have z2 : ¬ D v j ≤ mxO (c v) (D v) j := fun y => z ((i_nle (by omega) (by omega)).mpr y)
        rw [ex, ifc_t q, Nat.max_eq_right (by omega)] at ih
        exact ih
      · refine absurd ?_ z
        rw [((a2 j (by omega)).2 q).1, i_le, i_nI (by omega), i_m9]
        omega
theorem c_diamOf (hG : Mn G) {r : Nat} (hr : Ra G r) (hr2 : r < 336) (h : RoAt mem r w E) (F : Fst n w E c D H) (h3 : mem 327 3 = nI n) {v : Nat} (hv : v < n) : CtI l M_X7_diameterOf G [.ref (gA G 327), .ref (gA G r), .int (nI v)] mem (fun x m => FOut mem m ∧ x = nI (mxO (c v) (Ecc n c D) n)) := by
  have hn := F.le
  refine CtI_of (by decide) (Nat.le_of_ble_eq_true rfl) rfl (t_X7_diameterOf_0 hG hr _ mem ?_)
  refine ⟨_, c_layFar hG hr h F hv, ?_⟩
  rintro m1 ⟨a1, a2⟩
  have o1 : FOut mem m1 := fun a h1 h2 _ => a1 a h1 h2
  have bd : ∀ j, mxO (c v) (Ecc n c D) j ≤ 1089 := fun j => mxO_le (fun x _ _ => Ecc_le F x)
  refine up_loop (P := fun j => ∀ m : Mem, (∀ a, a ≠ 338 → m a = m1 a) → (∀ x, x < j → m 338 x = m1 336 x) → XI l M_X7_diameterOf G _ m 8 [(0, .ref (gA G 327)), (1, .ref (gA G r)), (3, .int (nI j))] []) (n := n) (Nat.zero_le _) ?_ ?_ m1 (fun _ _ => rfl) (fun x q => absurd q (Nat.not_lt_zero x))
  · intro m i1 i2
    refine t_X7_diameterOf_8 hG hr _ m ?_
    have o2 : FOut mem m := o1.tr (fun a _ _ h3 => i1 a h3)
    refine ⟨fun _ => ?_, fun z => absurd (by rw [o2.n3 h3]; exact (i_nle (by omega) (by omega)).mpr (Nat.le_refl _)) z⟩
    have f9 : ∀ x, x < n → (m 338 x = -9 ↔ ¬ c v x) := fun x hx => by
      rw [i2 x hx]
      exact ⟨fun z q => i_n9 (k := D v x) (by have := F.dlt q; omega) (((a2 x (by omega)).1 q).1.symm.trans z), fun q => ((a2 x (by omega)).2 q).1⟩
    refine up_loop (P := fun j => ∀ m2 : Mem, (∀ a, a ≠ 336 → a ≠ 337 → m2 a = m a) → XI l M_X7_diameterOf G _ m2 39 [(0, .ref (gA G 327)), (1, .ref (gA G r)), (3, .int (nI (mxO (c v) (Ecc n c D) j))), (4, .int (nI j))] []) (n := n) (Nat.zero_le _) ?_ ?_ m (fun _ _ _ => rfl)
    · intro m2 j1
      refine t_X7_diameterOf_39 hG hr _ _ m2 ?_
      have o3 : FOut mem m2 := o2.tr (fun a h1 h2 _ => j1 a h1 h2)
      exact ⟨fun _ => ⟨o3, rfl⟩, fun z => absurd (by rw [o3.n3 h3]; exact (i_nle (by omega) (by omega)).mpr (Nat.le_refl _)) z⟩
    · intro j _ hj ih m2 j1
      refine t_X7_diameterOf_39 hG hr _ _ m2 ?_
      have o3 : FOut mem m2 := o2.tr (fun a h1 h2 _ => j1 a h1 h2)
      have b1 := bd j
      have ex : mxO (c v) (Ecc n c D) (j + 1) = ifc (c v j) (max (mxO (c v) (Ecc n c D) j) (Ecc n c D j)) (mxO (c v) (Ecc n c D) j) := rfl
      rw [o3.n3 h3, i_cl (by omega), nI_1 j, j1 338 (by omega) (by omega)]
      refine ⟨fun z => absurd ((i_nle (by omega) (by omega)).mp z) (by omega), fun _ => ⟨i_in (by omega) (by decide), fun z => ?_, fun z => ?_⟩⟩
      · rw [ex, ifc_f ((f9 j hj).mp z)] at ih
        exact ih m2 j1
      · have q : c v j := Classical.byContradiction fun q => z ((f9 j hj).mpr q)
        refine ⟨_, c_eccOf hG hr (o3.ro hr2 h) F (o3.n3 h3) hj, ?_⟩
        rintro x m3 ⟨k1, rfl⟩
        have b2 := Ecc_le F j
        have j3 : ∀ a, a ≠ 336 → a ≠ 337 → m3 a = m a := fun a h1 h2 => (k1 a h1 h2).trans (j1 a h1 h2)
        rw [ex, ifc_t q] at ih
        refine ⟨fun z => ?_, fun z => ?_⟩
        · rw [Nat.max_eq_left ((i_nle (by omega) (by omega)).mp z)] at ih
          exact ih m3 j3
        · have z2 : ¬ Ecc n c D j ≤ mxO (c v) (Ecc n c D) j := fun y => z ((i_nle (by omega) (by omega)).mpr y)
          rw [Nat.max_eq_right (by omega)] at ih
          exact ih m3 j3
  · intro j _ hj ih m i1 i2
    refine t_X7_diameterOf_8 hG hr _ m ?_
    have o2 : FOut mem m := o1.tr (fun a _ _ h3 => i1 a h3)
    have jin := i_in (k := j) (n := 12) (by omega) (by decide)
    rw [o2.n3 h3, i_cl (by omega), nI_1 j, i1 336 (by omega)]
    refine ⟨fun z => absurd ((i_nle (by omega) (by omega)).mp z) (by omega), fun _ => ⟨jin, jin, ih _ (fun a ha => by rw [wr_n ha]; exact i1 a ha) (fun x hx => ?_)⟩⟩
    rw [wr_at]
    by_cases e : x = j
    · rw [if_pos ⟨rfl, e⟩, e]
    · rw [if_neg (by omega)]; exact i2 x (by omega)
end KM
