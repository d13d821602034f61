/-! History, Observations -/
section CH
variable {l : Launch} {G : Gx} {mem : Mem} {n : Nat} {w : Nat → Nat} {E : Nat → Nat → Nat} {c : Nat → Nat → Prop} {D H : Nat → Nat → Nat}
theorem c_hsize (hG : Mn G) : CtI l M_X2_size G [.ref (gA G 79)] mem (fun r m => m = mem ∧ r = mem 79 2) := CtI_of (by decide) (Nat.le_of_ble_eq_true rfl) rfl (t_X2_size_0 hG mem ⟨rfl, rfl⟩)
theorem c_forget (hG : Mn G) : CtV l M_X2_forget G [.ref (gA G 79)] mem (fun m => m = wr mem 79 2 0) := CtV_of (by decide) (Nat.le_of_ble_eq_true rfl) rfl (t_X2_forget_0 hG mem rfl)
theorem rem_nI {a d : Nat} (ha : a < 2147483648) (h0 : 0 < d) (hd : d < 2147483648) : nI a - nI a / nI d * nI d = nI (a % d) := pk_rem ha h0 hd
theorem i_min' {a b : Nat} (ha : a < 2147483648) (hb : b < 2147483648) : (if nI b < nI a then nI b else nI a) = nI (min a b) := by rw [i_min hb ha, Nat.min_comm]
theorem c_remember (hG : Mn G) {g nx ct : Nat} (hg : Fo G g) (hd : g + 15 ≤ 81 ∨ 291 ≤ g) (h : FoAt mem g n w E) (h1 : mem 79 1 = nI nx) (h2 : mem 79 2 = nI ct) (hx : nx < 14) (hc : ct ≤ 14) : CtV l M_X2_remember G [.ref (gA G 79), .ref (gA G g)] mem (fun m => m 79 1 = nI ((nx + 1) % 14) ∧ m 79 2 = nI (min (ct + 1) 14) ∧ FoAt m (81 + 15 * nx) n w E ∧ ∀ a, a ≠ 79 → (a < 81 + 15 * nx ∨ 81 + 15 * nx + 15 ≤ a) → m a = mem a) := by
  refine CtV_of (by decide) (Nat.le_of_ble_eq_true rfl) rfl (t_X2_remember_0 hG hg mem ?_)
  rw [h1, i_cl (by omega)]
  refine ⟨i_in hx (by decide), _, c_become (Fo_hist hG hx) hg h (by omega), ?_⟩
  rintro m ⟨hf, ho⟩
  have k1 : m 79 1 = nI nx := by rw [ho 79 (by omega)]; exact h1
  have k2 : m 79 2 = nI ct := by rw [ho 79 (by omega)]; exact h2
  rw [k1]
  intro m1 e1
  have e2 : nI nx + 1 - (nI nx + 1) / 14 * 14 = nI ((nx + 1) % 14) := by rw [nI_1, show (14 : Int32) = nI 14 from rfl, rem_nI (by omega) (by decide) (by decide)]
  rw [e2] at e1
  have k3 : m1 79 2 = nI ct := by rw [e1, wr_at, if_neg (by decide)]; exact k2
  rw [k3, nI_1, show (14 : Int32) = nI 14 from rfl, i_min' (by omega) (by decide)]
  intro m2 e3
  have key : ∀ a, a ≠ 79 → m2 a = m a := fun a ha => by rw [e3, wr_n ha, e1, wr_n ha]
  refine ⟨?_, ?_, ⟨?_, fun v hv => ?_, fun u v hu hv => ?_⟩, fun a ha hb => ?_⟩
  · rw [e3, wr_at, if_neg (by decide), e1, wr_at, if_pos ⟨rfl, rfl⟩]
  · rw [e3, wr_at, if_pos ⟨rfl, rfl⟩]
  · rw [key _ (by omega)]; exact hf.1
  · rw [key _ (by omega)]; exact hf.2.1 v hv
  · rw [key _ (by omega)]; exact hf.2.2 u v hu hv
  · rw [key _ ha]; exact ho a hb
theorem c_takeBack0 (hG : Mn G) {g : Nat} (hg : Fo G g) (h2 : mem 79 2 = 0) : CtI l M_X2_takeBack G [.ref (gA G 79), .ref (gA G g)] mem (fun r m => m = mem ∧ r = 0) :=
  CtI_of (by decide) (Nat.le_of_ble_eq_true rfl) rfl (t_X2_takeBack_0 hG hg mem ⟨fun z => absurd h2 z, fun _ => ⟨rfl, rfl⟩⟩)
theorem c_takeBack (hG : Mn G) {g nx ct : Nat} (hg : Fo G g) (hd : g + 15 ≤ 79) (h1 : mem 79 1 = nI nx) (h2 : mem 79 2 = nI ct) (hx : nx < 14) (h0 : 0 < ct) (hc : ct ≤ 14) (h : FoAt mem (81 + 15 * ((nx + 13) % 14)) n w E) : CtI l M_X2_takeBack G [.ref (gA G 79), .ref (gA G g)] mem (fun r m => r = 1 ∧ m 79 1 = nI ((nx + 13) % 14) ∧ m 79 2 = nI (ct - 1) ∧ FoAt m g n w E ∧ ∀ a, a ≠ 79 → (a < g ∨ g + 15 ≤ a) → m a = mem a) := by
  refine CtI_of (by decide) (Nat.le_of_ble_eq_true rfl) rfl (t_X2_takeBack_0 hG hg mem ⟨fun _ => ?_, fun z => ?_⟩)
  · rw [h1]
    have e2 : (nI nx + 14 - 1) - (nI nx + 14 - 1) / 14 * 14 = nI ((nx + 13) % 14) := by
      have e : nI nx + 14 - 1 = nI (nx + 13) := by rw [show (14 : Int32) = nI 14 from rfl, nI_add, show (1 : Int32) = nI 1 from rfl, pk_sub (by omega)]; congr 1
      rw [e, show (14 : Int32) = nI 14 from rfl, rem_nI (by omega) (by decide) (by decide)]
    rw [e2]
    intro m1 e1
    have k3 : m1 79 2 = nI ct := by rw [e1, wr_at, if_neg (by decide)]; exact h2
    rw [k3, show (1 : Int32) = nI 1 from rfl, pk_sub (by omega)]
    intro m2 e3
    have key : ∀ a, a ≠ 79 → m2 a = mem a := fun a ha => by rw [e3, wr_n ha, e1, wr_n ha]
    have k4 : m2 79 1 = nI ((nx + 13) % 14) := by rw [e3, wr_at, if_neg (by decide), e1, wr_at, if_pos ⟨rfl, rfl⟩]
    have k5 : m2 79 2 = nI (ct - 1) := by rw [e3, wr_at, if_pos ⟨rfl, rfl⟩]
    have b1 : (nx + 13) % 14 < 14 := Nat.mod_lt _ (by decide)
    rw [k4, i_cl (by omega)]
    have h' : FoAt m2 (81 + 15 * ((nx + 13) % 14)) n w E := ⟨by rw [key _ (by omega)]; exact h.1, fun v hv => by rw [key _ (by omega)]; exact h.2.1 v hv, fun u v hu hv => by rw [key _ (by omega)]; exact h.2.2 u v hu hv⟩
    refine ⟨i_in b1 (by decide), _, c_become hg (Fo_hist hG b1) h' (by omega), ?_⟩
    rintro m3 ⟨hf, ho⟩
    exact ⟨rfl, by rw [ho 79 (by omega)]; exact k4, by rw [ho 79 (by omega)]; exact k5, hf, fun a ha hb => (ho a hb).trans (key a ha)⟩
  · rw [h2, i_eq, i_nI (by omega), i_0] at z; omega
theorem c_store (hG : Mn G) {nx ct : Nat} (u v d : Int32) (h1 : mem 291 3 = nI nx) (h2 : mem 291 4 = nI ct) (hx : nx < 6) (hc : ct ≤ 6) : CtI l M_X3_store G [.ref (gA G 291), .int u, .int v, .int d] mem (fun r m => r = nI (min (ct + 1) 6) ∧ m 291 3 = nI ((nx + 1) % 6) ∧ m 291 4 = nI (min (ct + 1) 6) ∧ m 292 = upd (mem 292) nx u ∧ m 293 = upd (mem 293) nx v ∧ m 294 = upd (mem 294) nx d ∧ ∀ a, (a < 291 ∨ 295 ≤ a) → m a = mem a) := by
  refine CtI_of (by decide) (Nat.le_of_ble_eq_true rfl) rfl (t_X3_store_0 hG _ _ _ mem ?_)
  rw [h1, i_cl (by omega)]
  refine ⟨i_in hx (by decide), fun m1 e1 => ?_⟩
  have a1 : m1 291 3 = nI nx := by rw [e1, wr_n (by decide)]; exact h1
  rw [a1, i_cl (by omega)]
  refine ⟨i_in hx (by decide), fun m2 e2 => ?_⟩
  have a2 : m2 291 3 = nI nx := by rw [e2, wr_n (by decide)]; exact a1
  rw [a2, i_cl (by omega)]
  refine ⟨i_in hx (by decide), fun m3 e3 => ?_⟩
  have a3 : m3 291 3 = nI nx := by rw [e3, wr_n (by decide)]; exact a2
  rw [a3, nI_1, show (6 : Int32) = nI 6 from rfl, rem_nI (by omega) (by decide) (by decide)]
  intro m4 e4
  have a4 : m4 291 4 = nI ct := by rw [e4, wr_at, if_neg (by decide), e3, wr_n (by decide), e2, wr_n (by decide), e1, wr_n (by decide)]; exact h2
  rw [a4, nI_1, i_min' (by omega) (by decide)]
  intro m5 e5
  have key : ∀ a, a ≠ 291 → m5 a = m3 a := fun a ha => by rw [e5, wr_n ha, e4, wr_n ha]
  refine ⟨by rw [e5, wr_at, if_pos ⟨rfl, rfl⟩], ?_, ?_, ?_, ?_, ?_, fun a ha => ?_⟩
  · rw [e5, wr_at, if_neg (by decide), e4, wr_at, if_pos ⟨rfl, rfl⟩]
  · rw [e5, wr_at, if_pos ⟨rfl, rfl⟩]
  · rw [key _ (by decide), e3, wr_n (by decide), e2, wr_n (by decide), e1, wr_s]
  · rw [key _ (by decide), e3, wr_n (by decide), e2, wr_s, e1, wr_n (by decide)]
  · rw [key _ (by decide), e3, wr_s, e2, wr_n (by decide), e1, wr_n (by decide)]
  · rw [key _ (by omega), e3, wr_n (by omega), e2, wr_n (by omega), e1, wr_n (by omega)]
/-- the observation (u, v, d) holds when the edge between a and b has the weight x -/
def ObH (E : Nat → Nat → Nat) (c : Nat → Nat → Prop) (D : Nat → Nat → Nat) (a b x u v d : Nat) : Prop := c u v ∧ ((Over c D a b u v ∧ D u v + x = d + E a b) ∨ (¬ Over c D a b u v ∧ D u v = d))
/-- how many weights are possible -/
noncomputable def Pos (E : Nat → Nat → Nat) (c : Nat → Nat → Prop) (D : Nat → Nat → Nat) (a b : Nat) (us vs ds : Nat → Nat) (ct : Nat) : Nat := smO (fun x => 1 ≤ x ∧ ∀ i, i < ct → ObH E c D a b x (us i) (vs i) (ds i)) (fun _ => 1) 100
theorem smO_none {p : Nat → Prop} {f : Nat → Nat} : ∀ {k : Nat}, (∀ x, x < k → ¬ p x) → smO p f k = 0
  | 0, _ => rfl
  | k + 1, h => by
    unfold smO
    rw [smO_none (k := k) (fun x hx => h x (by omega)), ifc_f (h k (Nat.lt_succ_self k))]
theorem smO_seg (lo hi : Int) (h0 : 0 ≤ lo) : ∀ k : Nat, ((smO (fun x => lo ≤ (x : Int) ∧ (x : Int) ≤ hi) (fun _ => 1) k : Nat) : Int) = max 0 (min ((k : Int) - 1) hi - lo + 1)
  | 0 => by
    show ((0 : Nat) : Int) = _
    omega
  | k + 1 => by
    have ih := smO_seg lo hi h0 k
    unfold smO
    by_cases q : lo ≤ (k : Int) ∧ (k : Int) ≤ hi
    · rw [ifc_t q]; omega
    · rw [ifc_f q]; omega
theorem c_countWeights (hG : Mn G) {s a b ct : Nat} (hs : Sv G s) (hv : SvAt mem s n c D) (hf : FoAt mem (s - 15) n w E) (F : Fst n w E c D H) (e : 0 < E a b) {us vs ds : Nat → Nat} (h2 : mem 291 4 = nI ct) (hc : ct ≤ 6) (ho : ∀ i, i < ct → mem 292 i = nI (us i) ∧ mem 293 i = nI (vs i) ∧ mem 294 i = nI (ds i) ∧ us i < 12 ∧ vs i < 12 ∧ ds i < 1000) : CtI l M_X3_countWeights G [.ref (gA G 291), .ref (gA G s), .int (nI a), .int (nI b)] mem (fun r m => m = mem ∧ r = nI (Pos E c D a b us vs ds ct)) := by
  have hn := F.le
  have ca := F.tD.ed e
  have be := F.2.2.1 a b
  refine CtI_of (by decide) (Nat.le_of_ble_eq_true rfl) rfl (t_X3_countWeights_0 hG hs _ _ mem ?_)
  refine up_loop (P := fun k => ∀ lo hi : Int32, 1 ≤ lo.toInt → lo.toInt ≤ 2000 → -2000 ≤ hi.toInt → hi.toInt ≤ 99 → (∀ x : Nat, (lo.toInt ≤ (x : Int) ∧ (x : Int) ≤ hi.toInt) ↔ (1 ≤ x ∧ x ≤ 99 ∧ ∀ i, i < k → ObH E c D a b x (us i) (vs i) (ds i))) → XI l M_X3_countWeights G _ mem 10 [(0, .ref (gA G 291)), (1, .ref (gA G s)), (2, .int (nI a)), (3, .int (nI b)), (4, .int lo), (5, .int hi), (6, .int (nI k))] []) (n := ct) (Nat.zero_le _) ?_ ?_ 1 99 (by decide) (by decide) (by decide) (by decide) (fun x => by
    rw [i_1, i_99]
    exact ⟨fun q => ⟨by omega, by omega, fun i hi => absurd hi (Nat.not_lt_zero i)⟩, fun q => ⟨by omega, by omega⟩⟩)
  · intro lo hi b1 b2 b3 b4 hq
    refine t_X3_countWeights_10 hG hs _ _ _ _ _ mem ?_
    rw [h2]
    refine ⟨fun _ => ⟨rfl, ?_⟩, fun z => absurd ((i_nle (by omega) (by omega)).mpr (Nat.le_refl _)) z⟩
    have e1 : (hi - lo).toInt = hi.toInt - lo.toInt := i_sub (by omega) (by omega)
    have e2 : (hi - lo + 1).toInt = hi.toInt - lo.toInt + 1 := by rw [i_add (by rw [e1, i_1]; omega) (by rw [e1, i_1]; omega), e1, i_1]
    have e3 : Pos E c D a b us vs ds ct = smO (fun x => lo.toInt ≤ (x : Int) ∧ (x : Int) ≤ hi.toInt) (fun _ => 1) 100 := by
      unfold Pos
      exact smO_cong (fun x hx => ⟨fun q => (hq x).mpr ⟨q.1, by omega, q.2⟩, fun q => ⟨((hq x).mp q).1, ((hq x).mp q).2.2⟩⟩) (fun _ _ _ => rfl)
    have e4 := smO_seg lo.toInt hi.toInt (by omega) 100
    rw [e3]
    have e5 : smO (fun x => lo.toInt ≤ (x : Int) ∧ (x : Int) ≤ hi.toInt) (fun _ => 1) 100 ≤ 100 := by
      have := smO_le (p := fun x : Nat => lo.toInt ≤ (x : Int) ∧ (x : Int) ≤ hi.toInt) (f := fun _ => 1) (B := 1) (k := 100) (fun _ _ _ => Nat.le_refl _)
      omega
    by_cases q : (0 : Int32) < hi - lo + 1
    · rw [if_pos q, i_eq, e2, i_nI (by omega)]
      rw [i_lt, e2, i_0] at q
      omega
    · rw [if_neg q, i_eq, i_nI (by omega), i_0]
      rw [i_lt, e2, i_0] at q
      omega
  · intro k _ hk ih lo hi b1 b2 b3 b4 hq
    refine t_X3_countWeights_10 hG hs _ _ _ _ _ mem ?_
    obtain ⟨o1, o2, o3, o4, o5, o6⟩ := ho k hk
    have kin := i_in (k := k) (n := 6) (by omega) (by decide)
    rw [h2, i_cl (by omega), o1, o2, o3]
    refine ⟨fun z => absurd ((i_nle (by omega) (by omega)).mp z) (by omega), fun _ => ⟨kin, kin, kin, _, c_between hs hv F (by omega) (by omega), ?_⟩⟩
    rintro r m ⟨rfl, rfl⟩
    rw [o1, o2]
    refine ⟨kin, kin, _, c_joined hs hv F (by omega) (by omega), ?_⟩
    rintro r m ⟨rfl, rfl⟩
    rw [o1, o2]
    have none0 : (∀ x, ¬ ObH E c D a b x (us k) (vs k) (ds k)) → (0 : Int32) = nI (Pos E c D a b us vs ds ct) := fun q => by
      unfold Pos
      rw [smO_none (fun x _ z => q x (z.2 k hk))]; rfl
    refine jn' (fun q => ⟨rfl, none0 (fun x z => q z.1)⟩) (fun q => ⟨kin, kin, _, c_goesOver hs hv hf F q e, ?_⟩)
    rintro r m ⟨rfl, rfl⟩
    have bd := F.dlt q
    rw [ifc_t q]
    have eo : (nI (ds k) - nI (D (us k) (vs k))).toInt = (ds k : Int) - D (us k) (vs k) := by rw [i_sub (by rw [i_nI (by omega), i_nI (by omega)]; omega) (by rw [i_nI (by omega), i_nI (by omega)]; omega), i_nI (by omega), i_nI (by omega)]
    refine jn (fun o => ⟨fun z => ?_, fun z => ⟨rfl, none0 (fun x y => ?_)⟩⟩) (fun o => ⟨_, c_edgeOf hs hf F (F.tD.v1 ca) (F.tD.v2 ca), ?_⟩)
    · rw [i_eq, eo, i_0] at z
      rw [nI_1]
      refine ih lo hi b1 b2 b3 b4 (fun x => ?_)
      rw [hq x]
      refine ⟨fun y => ⟨y.1, y.2.1, fun i hi2 => ?_⟩, fun y => ⟨y.1, y.2.1, fun i hi2 => y.2.2 i (by omega)⟩⟩
      by_cases ei : i = k
      · subst ei; exact ⟨q, Or.inr ⟨o, by omega⟩⟩
      · exact y.2.2 i (by omega)
    · rw [i_eq, eo, i_0] at z
      rcases y.2 with ⟨y1, -⟩ | ⟨-, y2⟩
      · exact o y1
      · omega
    · rintro r m ⟨rfl, rfl⟩
      rw [nI_1]
      have en : (nI (E a b) + (nI (ds k) - nI (D (us k) (vs k)))).toInt = (E a b : Int) + ((ds k : Int) - D (us k) (vs k)) := by rw [i_add (by rw [eo, i_nI (by omega)]; omega) (by rw [eo, i_nI (by omega)]; omega), eo, i_nI (by omega)]
      generalize nI (E a b) + (nI (ds k) - nI (D (us k) (vs k))) = nd at en ⊢
      have m1 : (if lo < nd then nd else lo).toInt = max lo.toInt nd.toInt := by
        split
        · next z => rw [i_lt] at z; omega
        · next z => rw [i_lt] at z; omega
      have m2 : (if nd < hi then nd else hi).toInt = min hi.toInt nd.toInt := by
        split
        · next z => rw [i_lt] at z; omega
        · next z => rw [i_lt] at z; omega
      refine ih _ _ (by rw [m1]; omega) (by rw [m1]; omega) (by rw [m2]; omega) (by rw [m2]; omega) (fun x => ?_)
      rw [m1, m2]
      have hx := hq x
      refine ⟨fun y => ?_, fun y => ?_⟩
      · obtain ⟨z1, z2, z3⟩ := hx.mp (by omega)
        refine ⟨z1, z2, fun i hi2 => ?_⟩
        by_cases ei : i = k
        · subst ei; exact ⟨q, Or.inl ⟨o, by omega⟩⟩
        · exact z3 i (by omega)
      · obtain ⟨z1, z2, z3⟩ := y
        have h3 := hx.mpr ⟨z1, z2, fun i hi2 => z3 i (by omega)⟩
        rcases (z3 k (Nat.lt_succ_self k)).2 with ⟨-, y2⟩ | ⟨y1, -⟩
        · omega
        · exact absurd o y1
end CH
