/-! the model: observations -/
section KM
variable {l : Launch} {G : Gx} {mem : Mem} {n : Nat} {w : Nat → Nat} {E : Nat → Nat → Nat} {c : Nat → Nat → Prop} {D H : Nat → Nat → Nat}
/-- an observation's arguments are right -/
def Obk (u v d : Int32) : Prop := (0 ≤ u.toInt ∧ u.toInt ≤ 11) ∧ (0 ≤ v.toInt ∧ v.toInt ≤ 11) ∧ 0 ≤ d.toInt ∧ d.toInt ≤ 999
theorem t_obsTail {P : Int32 → Mem → Prop} {m16 : Mem} {a1 a2 a3 : Int32} {ct : Nat} (hc : ct < 6) (h : m16 327 14 = nI ct) (hP : ∀ m : Mem, (∀ j, m 335 j = if j = 3 * ct then a1 else if j = 3 * ct + 1 then a2 else if j = 3 * ct + 2 then a3 else m16 335 j) → m 327 14 = nI (ct + 1) → (∀ a, a ≠ 327 → a ≠ 335 → m a = m16 a) → (∀ j, j ≠ 14 → m 327 j = m16 327 j) → P (nI (ct + 1)) m) : vp_in (3 * (m16 327 14)) 18 ∧ (∀ m21 : Mem, m21 = (wr m16 335 ((3 * (m16 327 14)).toNatClampNeg) a1) → (vp_in ((3 * (m21 327 14)) + 1) 18 ∧ (∀ m24 : Mem, m24 = (wr m21 335 (((3 * (m21 327 14)) + 1).toNatClampNeg) a2) → (vp_in ((3 * (m24 327 14)) + 2) 18 ∧ (∀ m27 : Mem, m27 = (wr m24 335 (((3 * (m24 327 14)) + 2).toNatClampNeg) a3) → (∀ m29 : Mem, m29 = (wr m27 327 14 ((m27 327 14) + 1)) → (P (m29 327 14) m29))))))) := by
  have e2 : nI (3 * ct) + 2 = nI (3 * ct + 2) := nI_add (3 * ct) 2
  rw [h, i_at30, i_cl (by omega)]
  refine ⟨i_in (by omega) (by decide), fun m21 e21 => ?_⟩
  have h21 : m21 327 14 = nI ct := by rw [e21, wr_n (by decide)]; exact h
  rw [h21, i_at30, nI_1, i_cl (by omega)]
  refine ⟨i_in (by omega) (by decide), fun m24 e24 => ?_⟩
  have h24 : m24 327 14 = nI ct := by rw [e24, wr_n (by decide)]; exact h21
  rw [h24, i_at30, e2, i_cl (by omega)]
  refine ⟨i_in (by omega) (by decide), fun m27 e27 m29 e29 => ?_⟩
  have h27 : m27 327 14 = nI ct := by rw [e27, wr_n (by decide)]; exact h24
  rw [h27, nI_1] at e29
  have h29 : m29 327 14 = nI (ct + 1) := by rw [e29, wr_at, if_pos ⟨rfl, rfl⟩]
  rw [h29]
  refine hP m29 (fun j => ?_) h29 (fun a q1 q2 => by rw [e29, wr_n q1, e27, wr_n q2, e24, wr_n q2, e21, wr_n q2]) (fun j q => by rw [e29, wr_at, if_neg (by omega), e27, wr_n (by decide), e24, wr_n (by decide), e21, wr_n (by decide)])
  rw [e29, wr_n (by decide), e27, wr_at, e24, wr_at, e21, wr_at]
  by_cases q1 : j = 3 * ct
  · rw [if_neg (by omega), if_neg (by omega), if_pos ⟨rfl, q1⟩, if_pos q1]
  · rw [if_neg q1]
    by_cases q2 : j = 3 * ct + 1
    · rw [if_neg (by omega), if_pos ⟨rfl, q2⟩, if_pos q2]
    · rw [if_neg q2]
      by_cases q3 : j = 3 * ct + 2
      · rw [if_pos ⟨rfl, q3⟩, if_pos q3]
      · rw [if_neg (by omega), if_neg (by omega), if_neg (by omega), if_neg q3]
/-- the model's observations after one more -/
def ObN (mem m : Mem) (ct : Nat) (a1 a2 a3 : Int32) : Prop := (∀ j, j < 18 → m 335 j = if ct < 6 then (if j = 3 * ct then a1 else if j = 3 * ct + 1 then a2 else if j = 3 * ct + 2 then a3 else mem 335 j) else if j < 15 then mem 335 (j + 3) else if j = 15 then a1 else if j = 16 then a2 else a3) ∧ m 327 14 = nI (min (ct + 1) 6) ∧ (∀ a, a ≠ 327 → a ≠ 335 → m a = mem a) ∧ ∀ j, j ≠ 14 → m 327 j = mem 327 j
theorem c_mObs (hG : Mn G) {u v d : Int32} {ct : Nat} (hc : ct ≤ 6) (h : mem 327 14 = nI ct) : CtI l M_X7_observe G [.ref (gA G 327), .int u, .int v, .int d] mem (fun r m => (¬ Obk u v d ∧ r = -2 ∧ m = mem) ∨ (Obk u v d ∧ r = nI (min (ct + 1) 6) ∧ ObN mem m ct u v d)) := by
  refine CtI_of (by decide) (Nat.le_of_ble_eq_true rfl) rfl (t_X7_observe_0 hG _ _ _ mem ?_)
  refine ⟨_, c_in' u 0 11 i_64_0 (d' := 11) rfl, ?_⟩
  rintro r m ⟨rfl, rfl⟩
  by_cases q1 : 0 ≤ u.toInt ∧ u.toInt ≤ 11
  · rw [if_pos q1]
    refine ⟨fun z => absurd z (by decide), fun _ => ⟨_, c_in' v 0 11 i_64_0 (d' := 11) rfl, ?_⟩⟩
    rintro r m ⟨rfl, rfl⟩
    by_cases q2 : 0 ≤ v.toInt ∧ v.toInt ≤ 11
    · rw [if_pos q2]
      refine ⟨fun z => absurd z (by decide), fun _ => ⟨_, c_in' d 0 999 i_64_0 (d' := 999) rfl, ?_⟩⟩
      rintro r m0 ⟨rfl, rfl⟩
      by_cases q3 : 0 ≤ d.toInt ∧ d.toInt ≤ 999
      · rw [if_pos q3]
        have ok : Obk u v d := ⟨q1, q2, q3⟩
        refine ⟨fun _ => ?_, fun z => absurd z (by decide)⟩
        by_cases q6 : ct = 6
        · subst q6
          refine ⟨fun z => absurd h z, fun _ => ?_⟩
          refine up_loop (P := fun k => ∀ m : Mem, (∀ a, a ≠ 335 → m a = m0 a) → (∀ j, j < 18 → m 335 j = if j < k then m0 335 (j + 3) else m0 335 j) → XI l M_X7_observe G _ m 51 [(0, .ref (gA G 327)), (1, .int u), (2, .int v), (3, .int d), (4, .int (nI k))] []) (n := 15) (Nat.zero_le _) ?_ ?_ m0 (fun _ _ => rfl) (fun j _ => by rw [if_neg (Nat.not_lt_zero j)])
          · intro m i1 i2
            refine t_X7_observe_51 hG _ _ _ _ m ⟨fun _ => fun m2 e2 => ?_, fun z => absurd ((i_nle (a := 15) (by decide) (by decide)).mpr (Nat.le_refl _)) z⟩
            have h5 : m2 327 14 = nI 5 := by rw [e2, wr_at, if_pos ⟨rfl, rfl⟩, i1 327 (by decide), h]; rfl
            refine t_obsTail (P := fun r m => (¬ Obk u v d ∧ r = -2 ∧ m = m0) ∨ (Obk u v d ∧ r = nI (min (6 + 1) 6) ∧ ObN m0 m 6 u v d)) (by decide) h5 (fun m3 k1 k2 k3 k4 => Or.inr ⟨ok, rfl, fun j hj => ?_, k2, fun a a1 a2 => ?_, fun j hj => ?_⟩)
            · rw [if_neg (by omega), k1 j, e2, wr_n (by decide), i2 j hj]
              by_cases p1 : j < 15
              · rw [if_neg (by omega), if_neg (by omega), if_neg (by omega), if_pos p1, if_pos p1]
              · rw [if_neg p1, if_neg p1]
                by_cases p2 : j = 15
                · rw [if_pos (by omega), if_pos p2]
                · rw [if_neg (by omega), if_neg p2]
                  by_cases p3 : j = 16
                  · rw [if_pos (by omega), if_pos p3]
                  · rw [if_neg (by omega), if_pos (by omega), if_neg p3]
            · rw [k3 a a1 a2, e2, wr_n a1]; exact i1 a a2
            · rw [k4 j hj, e2, wr_at, if_neg (by omega), i1 327 (by decide)]
          · intro k _ hk ih m i1 i2
            have e3 : nI k + 3 = nI (k + 3) := nI_add k 3
            refine t_X7_observe_51 hG _ _ _ _ m ?_
            rw [e3, nI_1, i_cl (by omega), i_cl (by omega)]
            refine ⟨fun z => absurd ((i_nle (a := 15) (by decide) (by omega)).mp z) (by omega), fun _ => ⟨i_in (by omega) (by decide), i_in (by omega) (by decide), fun m2 e2 => ih m2 (fun a ha => by rw [e2, wr_n ha]; exact i1 a ha) (fun j hj => ?_)⟩⟩
            rw [e2, wr_at]
            by_cases p1 : j = k
            · rw [if_pos ⟨rfl, p1⟩, if_pos (by omega), i2 _ (by omega), if_neg (by omega), p1]
            · rw [if_neg (by omega), i2 j hj]
              by_cases p2 : j < k
              · rw [if_pos p2, if_pos (by omega)]
              · rw [if_neg p2, if_neg (by omega)]
        · refine ⟨fun _ => ?_, fun z => ?_⟩
          · refine t_obsTail (P := fun r m => (¬ Obk u v d ∧ r = -2 ∧ m = m0) ∨ (Obk u v d ∧ r = nI (min (ct + 1) 6) ∧ ObN m0 m ct u v d)) (by omega) h (fun m3 k1 k2 k3 k4 => Or.inr ⟨ok, ?_, fun j hj => ?_, ?_, k3, k4⟩)
            · rw [Nat.min_eq_left (by omega)]
            · rw [if_pos (by omega), k1 j]
            · rw [k2, Nat.min_eq_left (by omega)]
          · rw [h, show (6 : Int32) = nI 6 from rfl, i_neq (by omega) (by decide)] at z
            exact absurd z q6
      · rw [if_neg q3]
        exact ⟨fun z => absurd rfl z, fun _ => Or.inl ⟨fun z => q3 z.2.2, rfl, rfl⟩⟩
    · rw [if_neg q2]
      exact ⟨fun _ => Or.inl ⟨fun z => q2 z.2.1, rfl, rfl⟩, fun z => absurd rfl z⟩
  · rw [if_neg q1]
    exact ⟨fun _ => Or.inl ⟨fun z => q1 z.1, rfl, rfl⟩, fun z => absurd rfl z⟩
/-- the model's observations -/
def ObM (m : Mem) (ct : Nat) (us vs ds : Nat → Nat) : Prop := m 327 14 = nI ct ∧ ct ≤ 6 ∧ ∀ i, i < ct → m 335 (3 * i) = nI (us i) ∧ m 335 (3 * i + 1) = nI (vs i) ∧ m 335 (3 * i + 2) = nI (ds i) ∧ us i < 12 ∧ vs i < 12 ∧ ds i < 1000
theorem c_agrees (hG : Mn G) {r ct : Nat} {us vs ds : Nat → Nat} (hr : Ra G r) (hr2 : r < 336) (h : RoAt mem r w E) (F : Fst n w E c D H) (h3 : mem 327 3 = nI n) (ho : ObM mem ct us vs ds) : CtI l M_X7_agrees G [.ref (gA G 327), .ref (gA G r)] mem (fun x m => (∀ a, a ≠ 336 → a ≠ 337 → m a = mem a) ∧ x = ifc (∀ i, i < ct → c (us i) (vs i) ∧ D (us i) (vs i) = ds i) 1 0) := by
  have hn := F.le
  have T := F.tD
  obtain ⟨o1, o2, o3⟩ := ho
  refine CtI_of (by decide) (Nat.le_of_ble_eq_true rfl) rfl (t_X7_agrees_0 hG hr mem ?_)
  refine up_loop (P := fun k => ∀ m : Mem, (∀ a, a ≠ 336 → a ≠ 337 → m a = mem a) → XI l M_X7_agrees G _ m 4 [(0, .ref (gA G 327)), (1, .ref (gA G r)), (2, .int (ifc (∀ i, i < k → c (us i) (vs i) ∧ D (us i) (vs i) = ds i) 1 0)), (3, .int (nI k))] []) (n := ct) (Nat.zero_le _) ?_ ?_ mem (fun _ _ _ => rfl) |> fun q => by rw [ifc_t (fun i hi => absurd hi (Nat.not_lt_zero i))] at q; exact q
  · intro m i1
    refine t_X7_agrees_4 hG hr _ _ m ?_
    rw [i1 327 (by decide) (by decide), o1]
    refine ⟨fun _ => ⟨?_, i1, rfl⟩, fun z => absurd ((i_nle (by omega) (by omega)).mpr (Nat.le_refl _)) z⟩
    by_cases q : ∀ i, i < ct → c (us i) (vs i) ∧ D (us i) (vs i) = ds i
    · rw [ifc_t q]; exact Or.inr rfl
    · rw [ifc_f q]; exact Or.inl rfl
  · intro k _ hk ih m i1
    refine t_X7_agrees_4 hG hr _ _ m ?_
    obtain ⟨b1, b2, b3, b4, b5, b6⟩ := o3 k hk
    have e2 : nI (3 * k) + 2 = nI (3 * k + 2) := nI_add (3 * k) 2
    rw [i1 327 (by decide) (by decide), o1, i_at30, e2, nI_1, nI_1, i_cl (by omega), i_cl (by omega), i_cl (by omega), i1 335 (by decide) (by decide), b1, b2]
    refine ⟨fun z => absurd ((i_nle (by omega) (by omega)).mp z) (by omega), fun _ => ⟨i_in (by omega) (by decide), i_in (by omega) (by decide), ?_⟩⟩
    have f0 : (¬ ∀ i, i < k + 1 → c (us i) (vs i) ∧ D (us i) (vs i) = ds i) → ifc (∀ i, i < k + 1 → c (us i) (vs i) ∧ D (us i) (vs i) = ds i) (1 : Int32) 0 = 0 := fun q => ifc_f q
    have f1 : (∀ i, i < k + 1 → c (us i) (vs i) ∧ D (us i) (vs i) = ds i) → ifc (∀ i, i < k + 1 → c (us i) (vs i) ∧ D (us i) (vs i) = ds i) (1 : Int32) 0 = 1 := fun q => ifc_t q
    have no : ¬ (c (us k) (vs k) ∧ D (us k) (vs k) = ds k) → ∀ m' : Mem, (∀ a, a ≠ 336 → a ≠ 337 → m' a = mem a) → XI l M_X7_agrees G (fun x m => (∀ a, a ≠ 336 → a ≠ 337 → m a = mem a) ∧ x = ifc (∀ i, i < ct → c (us i) (vs i) ∧ D (us i) (vs i) = ds i) 1 0) m' 4 [(0, .ref (gA G 327)), (1, .ref (gA G r)), (2, .int 0), (3, .int (nI (k + 1)))] [] := fun q m' i' => by
      have := ih m' i'
      rw [f0 (fun z => q (z k (Nat.lt_succ_self k)))] at this
      exact this
    refine jn (fun q => ?_) (fun q => ?_)
    · have := ih m i1
      rw [f0 (fun z => q (fun i hi => z i (by omega)))] at this
      exact this
    · have bv : ∀ {x : Nat}, x < 12 → ((nI x).toInt < n ↔ x < n) := fun hx => by rw [i_nI (by omega)]; omega
      refine ⟨_, c_isVertex hG (by rw [i1 327 (by decide) (by decide)]; exact h3) F.1.1 hn _, ?_⟩
      rintro x m2 ⟨rfl, rfl⟩
      by_cases qu : us k < n
      · rw [if_pos (vtx qu hn)]
        refine ⟨fun z => absurd z (by decide), fun _ => ⟨_, c_isVertex hG (by rw [i1 327 (by decide) (by decide)]; exact h3) F.1.1 hn _, ?_⟩⟩
        rintro x m2 ⟨rfl, rfl⟩
        by_cases qv : vs k < n
        · rw [if_pos (vtx qv hn)]
          refine ⟨fun z => absurd z (by decide), fun _ => ⟨_, c_farOf hG hr (h.eq' (i1 r (by omega) (by omega))) F qu b5, ?_⟩⟩
          rintro x m3 ⟨k1, rfl⟩
          have i3 : ∀ a, a ≠ 336 → a ≠ 337 → m3 a = mem a := fun a a1 a2 => (k1 a a1 a2).trans (i1 a a1 a2)
          rw [i3 335 (by decide) (by decide), b3]
          refine ⟨i_in (by omega) (by decide), fun z => no (fun y => z ?_) m3 i3, fun z => ?_⟩
          · rw [ifc_t y.1, y.2]
          · have y : c (us k) (vs k) ∧ D (us k) (vs k) = ds k := by
              by_cases cc : c (us k) (vs k)
              · rw [ifc_t cc, i_neq (by have := F.dlt cc; omega) (by omega)] at z
                exact ⟨cc, z⟩
              · rw [ifc_f cc] at z
                exact absurd z.symm (i_n9 (by omega))
            have := ih m3 i3
            rw [f1 (fun i hi => by
              by_cases e : i = k
              · rw [e]; exact y
              · exact q i (by omega))] at this
            exact this
        · rw [if_neg (fun z => qv ((bv b5).mp z.2))]
          exact ⟨fun _ => no (fun y => qv (T.v2 y.1)) _ i1, fun z => absurd rfl z⟩
      · rw [if_neg (fun z => qu ((bv b4).mp z.2))]
        exact ⟨fun _ => no (fun y => qu (T.v1 y.1)) _ i1, fun z => absurd rfl z⟩
end KM
