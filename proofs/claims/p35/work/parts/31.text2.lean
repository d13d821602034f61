/-! SetupText: weights, edges, the whole text -/
theorem Cn_of {n : Nat} {w : Nat → Nat} {E : Nat → Nat → Nat} {c : Nat → Nat → Prop} {D H : Nat → Nat → Nat} (F : Fst n w E c D H) {u v : Nat} (hu : u < n) : Cn E u v ↔ c u v := by
  refine ⟨fun ⟨k, hk⟩ => ?_, fun q => ?_⟩
  · have key : ∀ (k x : Nat), rch E u k x → c u x := by
      intro k
      induction k with
      | zero => intro x hk; rw [show x = u from hk]; exact F.tD.rf hu
      | succ k ih =>
        intro x hk
        obtain ⟨y, h1, h2⟩ := hk
        exact F.tD.tr (ih y h1) (F.tD.ed h2)
    exact key k v hk
  · have key : ∀ (k : Nat) (x : Nat), D x u ≤ k → c x u → Cn E u x := by
      intro k
      induction k with
      | zero => intro x hk q; exact ⟨0, F.tD.d00 q (by omega)⟩
      | succ k ih =>
        intro x hk q
        by_cases e : x = u
        · exact ⟨0, e⟩
        · obtain ⟨z, h1, h2⟩ := F.tD.a5 q e
          obtain ⟨j, hj⟩ := ih z (by omega) (F.tD.tr (F.tD.sy (F.tD.ed h1)) q)
          exact ⟨j + 1, z, hj, by rw [F.tD.ws]; exact h1⟩
    exact key _ v (Nat.le_refl _) (F.tD.sy q)
def MkC (m : Mem) (mk : Nat → Nat) : Prop := ∀ v, v < 12 → m 78 v = nI (mk v) ∧ mk v < 12
/-- outside the reader's cells and the forest at g nothing changed -/
def OtC (g : Nat) (mem m : Mem) : Prop := ∀ a, a ≠ 76 → a ≠ 78 → (a < g ∨ g + 15 ≤ a) → m a = mem a
theorem OtC.tr {g : Nat} {m1 m2 m3 : Mem} (h : OtC g m1 m2) (h2 : OtC g m2 m3) : OtC g m1 m3 := fun a h3 h4 h5 => (h2 a h3 h4 h5).trans (h a h3 h4 h5)
theorem PlC.ot {g p : Nat} {mem m : Mem} (h : PlC mem m p) : OtC g mem m := fun a h1 _ _ => h.1 a h1
theorem Out.ot {g : Nat} {mem m : Mem} (h : Out g (g + 15) mem m) : OtC g mem m := fun a _ _ h1 => h a h1
theorem FoAt.pl {g n p : Nat} {w : Nat → Nat} {E : Nat → Nat → Nat} {mem m : Mem} (h : FoAt mem g n w E) (q : PlC mem m p) (hg : g + 15 ≤ 76 ∨ 79 ≤ g) : FoAt m g n w E :=
  ⟨by rw [q.1 _ (by omega)]; exact h.1, fun v hv => by rw [q.1 _ (by omega)]; exact h.2.1 v hv, fun u v hu hv => by rw [q.1 _ (by omega)]; exact h.2.2 u v hu hv⟩
theorem TxC.ou {g len : Nat} {tx : Nat → Nat} {mem m : Mem} (h : TxC mem len tx) (q : Out g (g + 15) mem m) (hg : g + 15 ≤ 76 ∨ 79 ≤ g) : TxC m len tx := ⟨by rw [q 76 (by omega)]; exact h.1, h.2.1, fun k hk => by rw [q 77 (by omega)]; exact h.2.2 k hk⟩
theorem wOf_of {tx : Nat → Nat} {len k p' x : Nat} (h : num tx len (3 + 2 * k) 0 99 = (p', some x)) : x = wOf tx k ∧ wOf tx k ≤ 99 ∧ p' = 3 + 2 * (k + 1) := by
  obtain ⟨a1, a2, a3, a4, a5, a6, a7, a8, a9, a10⟩ := num_some h
  have e : 3 + 2 * k + 1 = 4 + 2 * k := by omega
  unfold wOf
  rw [e] at a5 a6 a7 a9 a10
  refine ⟨a7, by omega, by omega⟩
section CT
variable {l : Launch} {G : Gx} {mem : Mem} {n len p g : Nat} {tx : Nat → Nat} {w : Nat → Nat} {E : Nat → Nat → Nat} {c : Nat → Nat → Prop} {D H : Nat → Nat → Nat}
theorem num_le {tx : Nat → Nat} {len p a b : Nat} (hp : p ≤ 80) (hl : len ≤ 80) : (num tx len p a b).1 ≤ 80 := by
  unfold num
  split
  · exact hp
  · next t ht =>
    have := (tk_some ht).1
    split
    · show p + 1 ≤ 80; omega
    · next o ho => have := (tk_some ho).1; show p + 2 ≤ 80; omega
theorem c_takeWeights (hG : Mn G) (hg : Fo G g) (hgd : g + 15 ≤ 76 ∨ 79 ≤ g) (ht : TxC mem len tx) (hp : mem 76 2 = nI 3) (hf : FoAt mem g n w E) (hn : n ≤ 12) : CtI l M_X4_takeWeights G [.ref (gA G 76), .ref (gA G g)] mem (fun r m => TxC m len tx ∧ OtC g mem m ∧ m 78 = mem 78 ∧ m 76 2 = nI (rdW tx len n 3).1 ∧ (rdW tx len n 3).1 ≤ 80 ∧ (((rdW tx len n 3).2 = true ∧ r = 1 ∧ FoAt m g n (fun v => if v < n then wOf tx v else w v) E ∧ ∀ v, v < n → wOf tx v ≤ 99) ∨ ((rdW tx len n 3).2 = false ∧ r = 0))) := by
  refine CtI_of (by decide) (Nat.le_of_ble_eq_true rfl) rfl (t_X4_takeWeights_0 hG hg mem ?_)
  have hl := ht.2.1
  refine up_loop (P := fun k => ∀ m : Mem, TxC m len tx → OtC g mem m → m 78 = mem 78 → m 76 2 = nI (3 + 2 * k) → rdW tx len n 3 = rdW tx len (n - k) (3 + 2 * k) → FoAt m g n (fun v => if v < k then wOf tx v else w v) E → (∀ v, v < k → wOf tx v ≤ 99) → 3 + 2 * k ≤ 80 → XI l M_X4_takeWeights G _ m 2 [(0, .ref (gA G 76)), (1, .ref (gA G g)), (2, .int (nI k))] []) (n := n) (Nat.zero_le _) ?_ ?_ mem ht (fun _ _ _ _ => rfl) rfl hp rfl (hf.cong (fun v _ => (if_neg (Nat.not_lt_zero v)).symm) (fun _ _ _ _ => rfl)) (fun v hv => absurd hv (Nat.not_lt_zero v)) (by decide)
  · intro m h1 h2 h3 h4 h5 h6 h7 h8
    refine t_X4_takeWeights_2 hG hg _ m ⟨_, c_vertices hg h6, ?_⟩
    rintro r m ⟨rfl, rfl⟩
    rw [Nat.sub_self] at h5
    refine ⟨fun _ => ⟨h1, h2, h3, by rw [h5]; exact h4, by rw [h5]; exact h8, Or.inl ⟨by rw [h5]; rfl, rfl, h6, h7⟩⟩, fun z => absurd ((i_nle (by omega) (by omega)).mpr (Nat.le_refl _)) z⟩
  · intro k _ hk ih m h1 h2 h3 h4 h5 h6 h7 h8
    refine t_X4_takeWeights_2 hG hg _ m ⟨_, c_vertices hg h6, ?_⟩
    rintro r m ⟨rfl, rfl⟩
    refine ⟨fun z => absurd ((i_nle (by omega) (by omega)).mp z) (by omega), fun _ => ⟨_, c_takeNumber hG h1 h4 h8 (least := 0) (g := 99) (by decide) (by decide), ?_⟩⟩
    intro r m2 hr
    rw [show n - k = (n - (k + 1)) + 1 by omega, rdW_s] at h5
    have nle := num_le (tx := tx) (a := 0) (b := 99) h8 hl
    obtain ⟨hm, hr⟩ := hr
    generalize e : num tx len (3 + 2 * k) 0 99 = R at h5 hm hr nle
    obtain ⟨p', o⟩ := R
    rcases hr with ⟨v, ev, rfl⟩ | ⟨ev, rfl⟩
    · dsimp only at ev
      subst ev
      dsimp only at h5 hm
      obtain ⟨w1, w2, w3⟩ := wOf_of e
      refine ⟨fun _ => ⟨_, c_putWeight hg (h6.pl hm hgd) hn hk, ?_⟩, fun z => absurd z (i_nm1 (by omega))⟩
      rintro m3 ⟨f1, f2⟩
      rw [nI_1]
      refine ih m3 ((h1.pl hm).ou f2 hgd) ((h2.tr hm.ot).tr f2.ot) (by rw [f2 78 (by omega), hm.1 78 (by decide)]; exact h3) (by rw [f2 76 (by omega), hm.2.2, w3]) (by rw [h5, w3]) (f1.cong (fun x _ => ?_) (fun _ _ _ _ => rfl)) (fun x hx => ?_) (by omega)
      · unfold updW
        dsimp only
        by_cases e1 : x = k
        · subst e1; rw [if_pos rfl, if_pos (by omega), w1]
        · rw [if_neg e1]
          by_cases e2 : x < k
          · rw [if_pos e2, if_pos (by omega)]
          · rw [if_neg e2, if_neg (by omega)]
      · by_cases e1 : x = k
        · subst e1; exact w2
        · exact h7 x (by omega)
    · dsimp only at ev
      subst ev
      dsimp only at h5 hm nle
      refine ⟨fun z => absurd rfl z, fun _ => ⟨h1.pl hm, h2.tr hm.ot, by rw [hm.1 78 (by decide)]; exact h3, by rw [h5]; exact hm.2.2, by rw [h5]; exact nle, Or.inr ⟨by rw [h5], rfl⟩⟩⟩
theorem c_joinTrees (hG : Mn G) {mk : Nat → Nat} (h : MkC mem mk) {a b : Nat} (ha : a < 12) (hb : b < 12) : CtV l M_X4_joinTrees G [.ref (gA G 76), .int (nI a), .int (nI b)] mem (fun m => (∀ q, q ≠ 78 → m q = mem q) ∧ MkC m (fun v => if mk v = b then a else mk v)) := by
  refine CtV_of (by decide) (Nat.le_of_ble_eq_true rfl) rfl (t_X4_joinTrees_0 hG _ _ mem ?_)
  refine up_loop (P := fun k => ∀ m : Mem, (∀ q, q ≠ 78 → m q = mem q) → (∀ v, v < 12 → m 78 v = nI (if v < k ∧ mk v = b then a else mk v)) → XV l M_X4_joinTrees G _ m 2 [(0, .ref (gA G 76)), (1, .int (nI a)), (2, .int (nI b)), (3, .int (nI k))] []) (n := 12) (Nat.zero_le _) ?_ ?_ mem (fun _ _ => rfl) (fun v hv => by rw [if_neg (by omega)]; exact (h v hv).1)
  · intro m h1 h2
    refine t_X4_joinTrees_2 hG _ _ _ m ⟨fun _ => ⟨h1, fun v hv => ⟨?_, ?_⟩⟩, fun z => absurd (by decide) z⟩
    · rw [h2 v hv]
      dsimp only
      by_cases e : mk v = b
      · rw [if_pos ⟨hv, e⟩, if_pos e]
      · rw [if_neg (fun z => e z.2), if_neg e]
    · have := (h v hv).2
      show (if mk v = b then a else mk v) < 12
      split <;> omega
  · intro k _ hk ih m h1 h2
    have kin := i_in (k := k) (n := 12) hk (by decide)
    have b1 := (h k hk).2
    refine t_X4_joinTrees_2 hG _ _ _ m ⟨fun z => absurd ((i_nle (a := 12) (by decide) (by omega)).mp z) (by omega), fun _ => ⟨kin, ?_⟩⟩
    rw [i_cl (by omega), h2 k hk, if_neg (by omega), i_neq (by omega) (by omega), nI_1]
    refine ⟨fun z => ih m h1 (fun v hv => ?_), fun z => ⟨kin, ih _ (fun q hq => by rw [wr_n hq]; exact h1 q hq) (fun v hv => ?_)⟩⟩
    · rw [h2 v hv]
      by_cases e : v < k ∧ mk v = b
      · rw [if_pos e, if_pos ⟨by omega, e.2⟩]
      · rw [if_neg e, if_neg]
        rintro ⟨e1, e2⟩
        by_cases e3 : v = k
        · subst e3; exact z e2
        · exact e ⟨by omega, e2⟩
    · rw [wr_at]
      by_cases e3 : v = k
      · subst e3; rw [if_pos ⟨rfl, rfl⟩, if_pos ⟨by omega, z⟩]
      · rw [if_neg (by omega), h2 v hv]
        by_cases e : v < k ∧ mk v = b
        · rw [if_pos e, if_pos ⟨by omega, e.2⟩]
        · rw [if_neg e, if_neg (fun q => e ⟨by omega, q.2⟩)]
/-- the marks tell the trees -/
def MkOk (n : Nat) (mk : Nat → Nat) (c : Nat → Nat → Prop) : Prop := ∀ u v, u < n → v < n → (mk u = mk v ↔ c u v)
theorem c_takeEdge (hG : Mn G) (hg : Fo G g) (hgd : g + 15 ≤ 76 ∨ 79 ≤ g) (ht : TxC mem len tx) (hp : mem 76 2 = nI p) (hp2 : p ≤ 80) (hf : FoAt mem g n w E) (F : Fst n w E c D H) {mk : Nat → Nat} (hm : MkC mem mk) (hk : MkOk n mk c) : CtI l M_X4_takeEdge G [.ref (gA G 76), .ref (gA G g)] mem (fun r m => TxC m len tx ∧ OtC g mem m ∧ m 76 2 = nI (edg tx len n p E).1 ∧ (edg tx len n p E).1 ≤ 80 ∧ ((∃ E', (edg tx len n p E).2 = some E' ∧ r = 1 ∧ FoAt m g n w E' ∧ ∃ c' D' H' mk', Fst n w E' c' D' H' ∧ MkC m mk' ∧ MkOk n mk' c') ∨ ((edg tx len n p E).2 = none ∧ r = 0))) := by
  have hn := F.le
  have hl := ht.2.1
  refine CtI_of (by decide) (Nat.le_of_ble_eq_true rfl) rfl (t_X4_takeEdge_0 hG hg mem ⟨_, c_vertices hg hf, ?_⟩)
  rintro r m ⟨rfl, rfl⟩
  have e97 : (97 : Int32) + nI n - 1 = nI (96 + n) := by rw [show (97 : Int32) = nI 97 from rfl, nI_add, show (1 : Int32) = nI 1 from rfl, pk_sub (by omega)]; congr 1; omega
  rw [e97]
  refine ⟨_, c_take hG ht hp hp2 (lo := 97) (hi := 96 + n) (by decide) (by omega), ?_⟩
  intro r m1 hr
  rcases hr with ⟨u, e1, rfl, hm1⟩ | ⟨e1, rfl, rfl⟩
  · obtain ⟨a1, a2, a3, a4⟩ := tk_some e1
    have ht1 := ht.pl hm1
    refine ⟨fun _ => ⟨_, c_take hG ht1 hm1.2.2 (by omega) (lo := 97) (hi := 96 + n) (by decide) (by omega), ?_⟩, fun z => absurd z (i_nm1 (by omega))⟩
    intro r m2 hr
    refine ⟨fun z => absurd z (i_nm1 (by omega)), fun _ => ?_⟩
    rcases hr with ⟨v, e2, rfl, hm2⟩ | ⟨e2, rfl, rfl⟩
    · obtain ⟨b1, b2, b3, b4⟩ := tk_some e2
      have hu : u < n := by omega
      have hv : v < n := by omega
      have hmt := hm1.tr hm2
      have ht2 := ht.pl hmt
      have k1 := hm u (by omega)
      have k2 := hm v (by omega)
      refine ⟨fun _ => ⟨i_in (by omega) (by decide), i_in (by omega) (by decide), ?_⟩, fun z => absurd z (i_nm1 (by omega))⟩
      rw [i_cl (by omega), i_cl (by omega), hmt.1 78 (by decide), k1.1, k2.1, i_neq (by omega) (by omega)]
      have cc := hk u v hu hv
      have cn := Cn_of F (u := u) (v := v) hu
      unfold edg
      rw [e1]
      dsimp only
      rw [e2]
      dsimp only
      refine ⟨fun q => ⟨_, c_takeNumber hG ht2 hmt.2.2 (by omega) (least := 1) (g := 99) (by decide) (by decide), ?_⟩, fun q => ?_⟩
      · have nc : ¬ c u v := fun z => q (cc.mpr z)
        rw [ifc_f (fun z => nc (cn.mp z))]
        intro r m3 hr
        obtain ⟨hm3, hr⟩ := hr
        have nle := num_le (tx := tx) (p := p + 2) (a := 1) (b := 99) (by omega) hl
        generalize e3 : num tx len (p + 2) 1 99 = R at hm3 hr nle ⊢
        obtain ⟨p', o⟩ := R
        have hmt3 := hmt.tr hm3
        rcases hr with ⟨x, ev, rfl⟩ | ⟨ev, rfl⟩
        · dsimp only at ev
          subst ev
          dsimp only at hm3 nle ⊢
          obtain ⟨d1, d2, d3, d4, d5, d6, d7, d8, d9, d10⟩ := num_some e3
          refine ⟨fun _ => ⟨_, c_putEdge hg (hf.pl hmt3 hgd) hn hu hv, ?_⟩, fun z => absurd z (i_nm1 (by omega))⟩
          rintro m4 ⟨f1, f2⟩
          have hm4 : MkC m4 mk := fun v hv => by rw [f2 78 (by omega), hmt3.1 78 (by decide)]; exact hm v hv
          refine ⟨i_in (by omega) (by decide), i_in (by omega) (by decide), ?_⟩
          rw [(hm4 u (by omega)).1, (hm4 v (by omega)).1]
          refine ⟨_, c_joinTrees hG hm4 k1.2 k2.2, ?_⟩
          rintro m5 ⟨g1, g2⟩
          obtain ⟨D', H', F', -⟩ := F.link hu hv nc (k := x) (by omega) (by omega)
          have ht4 := (ht.pl hmt3).ou f2 hgd
          refine ⟨⟨by rw [g1 76 (by decide)]; exact ht4.1, hl, fun k hk => by rw [g1 77 (by decide)]; exact ht4.2.2 k hk⟩, fun a h6 h7 h8 => by rw [g1 a h7, f2 a h8, hmt3.1 a h6], by rw [g1 76 (by decide), f2 76 (by omega)]; exact hmt3.2.2, nle, Or.inl ⟨_, rfl, rfl, ⟨by rw [g1 _ (by omega)]; exact f1.1, fun v hv => by rw [g1 _ (by omega)]; exact f1.2.1 v hv, fun a b ha hb => by rw [g1 _ (by omega)]; exact f1.2.2 a b ha hb⟩, _, D', H', _, F', g2, ?_⟩⟩
          intro x y hx hy
          have c1 := hk x y hx hy
          have c2 := hk x u hx hu
          have c3 := hk x v hx hv
          have c4 := hk y u hy hu
          have c5 := hk y v hy hv
          have c6 := hk u y hu hy
          show (if mk x = mk v then mk u else mk x) = (if mk y = mk v then mk u else mk y) ↔ _
          by_cases z1 : mk x = mk v <;> by_cases z2 : mk y = mk v
          · rw [if_pos z1, if_pos z2]
            exact ⟨fun _ => Or.inl (c1.mp (z1.trans z2.symm)), fun _ => rfl⟩
          · rw [if_pos z1, if_neg z2]
            refine ⟨fun z => Or.inr (Or.inr ⟨c3.mp z1, c4.mp z.symm⟩), fun z => ?_⟩
            rcases z with z | z | z
            · exact absurd ((c1.mpr z).symm.trans z1) z2
            · exact absurd (c5.mpr z.2) z2
            · exact (c4.mpr z.2).symm
          · rw [if_neg z1, if_pos z2]
            refine ⟨fun z => Or.inr (Or.inl ⟨c2.mp z, c5.mp z2⟩), fun z => ?_⟩
            rcases z with z | z | z
            · exact absurd ((c1.mpr z).trans z2) z1
            · exact c2.mpr z.1
            · exact absurd (c3.mpr z.1) z1
          · rw [if_neg z1, if_neg z2]
            refine ⟨fun z => Or.inl (c1.mp z), fun z => ?_⟩
            rcases z with z | z | z
            · exact c1.mpr z
            · exact absurd (c5.mpr z.2) z2
            · exact absurd (c3.mpr z.1) z1
        · dsimp only at ev
          subst ev
          dsimp only at hm3 nle ⊢
          exact ⟨fun z => absurd rfl z, fun _ => ⟨ht.pl hmt3, hmt3.ot, hmt3.2.2, nle, Or.inr ⟨rfl, rfl⟩⟩⟩
      · rw [ifc_t (cn.mpr (cc.mp q)), hmt.2.2, show (1 : Int32) = nI 1 from rfl, pk_sub (by omega)]
        refine ⟨⟨by rw [wr_at, if_neg (by decide)]; exact ht2.1, hl, fun k hk => by rw [wr_n (by decide)]; exact ht2.2.2 k hk⟩, fun a h6 _ _ => by rw [wr_n h6]; exact hmt.1 a h6, by rw [wr_at, if_pos ⟨rfl, rfl⟩]; rfl, by show p + 1 ≤ 80; omega, Or.inr ⟨rfl, rfl⟩⟩
    · refine ⟨fun z => absurd rfl z, fun _ => ?_⟩
      unfold edg
      rw [e1]
      dsimp only
      rw [e2]
      exact ⟨ht1, hm1.ot, hm1.2.2, by show p + 1 ≤ 80; omega, Or.inr ⟨rfl, rfl⟩⟩
  · refine ⟨fun z => absurd rfl z, fun _ => ⟨fun _ => ?_, fun z => absurd rfl z⟩⟩
    unfold edg
    rw [e1]
    exact ⟨ht, fun _ _ _ _ => rfl, hp, hp2, Or.inr ⟨rfl, rfl⟩⟩
theorem c_takeEdges (hG : Mn G) (hg : Fo G g) (hgd : g + 15 ≤ 76 ∨ 79 ≤ g) (ht : TxC mem len tx) (hp : mem 76 2 = nI p) (hp2 : p ≤ 80) (hf : FoAt mem g n w (fun _ _ => 0)) (hn : 1 ≤ n ∧ n ≤ 12) (hw : ∀ v, v < n → w v ≤ 99) : CtI l M_X4_takeEdges G [.ref (gA G 76), .ref (gA G g)] mem (fun r m => TxC m len tx ∧ OtC g mem m ∧ m 76 2 = nI (rdE tx len n 12 p (fun _ _ => 0)).1 ∧ ((∃ E', (rdE tx len n 12 p (fun _ _ => 0)).2 = some E' ∧ r = 1 ∧ FoAt m g n w E' ∧ ∃ c' D' H', Fst n w E' c' D' H') ∨ ((rdE tx len n 12 p (fun _ _ => 0)).2 = none ∧ r = 0))) := by
  refine CtI_of (by decide) (Nat.le_of_ble_eq_true rfl) rfl (t_X4_takeEdges_0 hG hg mem ?_)
  refine up_loop (P := fun k => ∀ m : Mem, (∀ a, a ≠ 78 → m a = mem a) → (∀ v, v < k → m 78 v = nI v) → XI l M_X4_takeEdges G _ m 2 [(0, .ref (gA G 76)), (1, .ref (gA G g)), (2, .int (nI k))] []) (n := 12) (Nat.zero_le _) ?_ ?_ mem (fun _ _ => rfl) (fun v hv => absurd hv (Nat.not_lt_zero v))
  · intro m0 h1 h2
    refine t_X4_takeEdges_2 hG hg _ m0 ⟨fun _ => ?_, fun z => absurd (by decide) z⟩
    refine up_loop (P := fun k => ∀ (m : Mem) (p' : Nat) (E : Nat → Nat → Nat) (c : Nat → Nat → Prop) (D H : Nat → Nat → Nat) (mk : Nat → Nat), TxC m len tx → OtC g mem m → m 76 2 = nI p' → p' ≤ 80 → FoAt m g n w E → Fst n w E c D H → MkC m mk → MkOk n mk c → rdE tx len n 12 p (fun _ _ => 0) = rdE tx len n (12 - k) p' E → XI l M_X4_takeEdges G _ m 23 [(0, .ref (gA G 76)), (1, .ref (gA G g)), (2, .int (nI k))] []) (n := 12) (Nat.zero_le _) ?_ ?_ m0 p _ _ _ _ (fun v => v) ⟨by rw [h1 76 (by decide)]; exact ht.1, ht.2.1, fun k hk => by rw [h1 77 (by decide)]; exact ht.2.2 k hk⟩ (fun a _ h3 _ => h1 a h3) (by rw [h1 76 (by decide)]; exact hp) hp2 ⟨by rw [h1 _ (by omega)]; exact hf.1, fun v hv => by rw [h1 _ (by omega)]; exact hf.2.1 v hv, fun a b ha hb => by rw [h1 _ (by omega)]; exact hf.2.2 a b ha hb⟩ (Fst.empty hn hw) (fun v hv => ⟨h2 v hv, hv⟩) (fun u v hu hv => ⟨fun z => ⟨z, hu⟩, fun z => z.1⟩) rfl
    · intro m p' E c D H mk k1 k2 k3 k4 k5 k6 k7 k8 k9
      exact t_X4_takeEdges_23 hG hg _ m ⟨fun _ => ⟨k1, k2, by rw [k9]; exact k3, Or.inl ⟨E, by rw [k9]; rfl, rfl, k5, c, D, H, k6⟩⟩, fun z => absurd (by decide) z⟩
    · intro k _ hk ih m p' E c D H mk k1 k2 k3 k4 k5 k6 k7 k8 k9
      have hl := ht.2.1
      refine t_X4_takeEdges_23 hG hg _ m ⟨fun z => absurd ((i_nle (a := 12) (by decide) (by omega)).mp z) (by omega), fun _ => ?_⟩
      rw [show 12 - k = (12 - (k + 1)) + 1 by omega, rdE_s tx len n (12 - (k + 1)) p' E] at k9
      rw [k1.1, k3, i_nle (by omega) (by omega)]
      refine ⟨fun z => ?_, fun z => ⟨_, c_takeEdge hG hg hgd k1 k3 k4 k5 k6 k7 k8, ?_⟩⟩
      · rw [if_pos z] at k9
        exact ⟨k1, k2, by rw [k9], Or.inl ⟨E, by rw [k9], rfl, k5, c, D, H, k6⟩⟩
      · rw [if_neg z] at k9
        intro r m2 hr
        obtain ⟨r1, r2, r3, r4, r5⟩ := hr
        generalize e : edg tx len n p' E = R at k9 r3 r4 r5
        obtain ⟨p2, o⟩ := R
        rcases r5 with ⟨E', ev, rfl, r6, c', D', H', mk', r7, r8, r9⟩ | ⟨ev, rfl⟩
        · dsimp only at ev
          subst ev
          dsimp only at k9 r3 r4
          rw [nI_1]
          exact ⟨fun _ => ih m2 p2 E' c' D' H' mk' r1 (k2.tr r2) r3 r4 r6 r7 r8 r9 k9, fun z => absurd z (by decide)⟩
        · dsimp only at ev
          subst ev
          dsimp only at k9 r3 r4
          exact ⟨fun z => absurd rfl z, fun _ => ⟨r1, k2.tr r2, by rw [k9]; exact r3, Or.inr ⟨by rw [k9], rfl⟩⟩⟩
  · intro k _ hk ih m h1 h2
    refine t_X4_takeEdges_2 hG hg _ m ⟨fun z => absurd ((i_nle (a := 12) (by decide) (by omega)).mp z) (by omega), fun _ => ⟨i_in hk (by decide), ?_⟩⟩
    rw [nI_1, i_cl (by omega)]
    refine ih _ (fun a ha => by rw [wr_n ha]; exact h1 a ha) (fun v hv => ?_)
    rw [wr_at]
    by_cases e : v = k
    · subst e; rw [if_pos ⟨rfl, rfl⟩]
    · rw [if_neg (by omega)]; exact h2 v (by omega)
/-- the answer of the reader -/
def RdAns (tx : Nat → Nat) (len : Nat) (r : Int32) : Prop := (∃ n E, (rd tx len).2 = some (n, E) ∧ r = -9) ∨ ((rd tx len).2 = none ∧ r = nI (rd tx len).1)
theorem c_readInto (hG : Mn G) (hg : Fo G g) (hgd : g + 15 ≤ 76 ∨ 79 ≤ g) (ht : TxC mem len tx) : CtI l M_X4_readInto G [.ref (gA G 76), .ref (gA G g)] mem (fun r m => TxC m len tx ∧ OtC g mem m ∧ RdAns tx len r ∧ ∀ n E, (rd tx len).2 = some (n, E) → ∃ w c D H, FoAt m g n w E ∧ (∀ v, v < n → w v = wOf tx v) ∧ Fst n w E c D H) := by
  have hl := ht.2.1
  refine CtI_of (by decide) (Nat.le_of_ble_eq_true rfl) rfl (t_X4_readInto_0 hG hg mem ?_)
  have hz : PlC mem (wr mem 76 2 0) 0 := ⟨fun a ha => by rw [wr_n ha], by rw [wr_at, if_neg (by decide)], by rw [wr_at, if_pos ⟨rfl, rfl⟩]; rfl⟩
  have ht0 := ht.pl hz
  refine ⟨_, c_take hG ht0 hz.2.2 (by decide) (lo := 70) (hi := 70) (by decide) (by decide), ?_⟩
  intro r m1 hr
  unfold RdAns rd
  rcases hr with ⟨u, e1, rfl, hm1⟩ | ⟨e1, rfl, rfl⟩
  · obtain ⟨a1, a2, a3, a4⟩ := tk_some e1
    have h1 := hz.tr hm1
    have ht1 := ht.pl h1
    rw [e1]
    dsimp only
    refine ⟨fun _ => ⟨_, c_takeNumber hG ht1 h1.2.2 (by omega) (least := 1) (g := 12) (by decide) (by decide), ?_⟩, fun z => absurd z (i_nm1 (by omega))⟩
    intro r m2 hr
    obtain ⟨hm2, hr⟩ := hr
    rw [show 0 + 1 = 1 from rfl] at hm2 hr
    generalize e2 : num tx len 1 1 12 = R at hm2 hr ⊢
    obtain ⟨p2, o⟩ := R
    have h2 := h1.tr hm2
    have ht2 := ht.pl h2
    rcases hr with ⟨n, ev, rfl⟩ | ⟨ev, rfl⟩
    · dsimp only at ev
      subst ev
      dsimp only at hm2 ⊢
      obtain ⟨d1, d2, d3, d4, d5, d6, d7, d8, d9, d10⟩ := num_some e2
      have hn : 1 ≤ n ∧ n ≤ 12 := by
        have : 12 / 10 = 1 := rfl
        have : 12 % 10 = 2 := rfl
        omega
      refine ⟨fun _ => ⟨_, c_reset hg hn.1 hn.2, ?_⟩, fun z => absurd z (i_nm1 (by omega))⟩
      rintro m3 ⟨f1, f2⟩
      have ht3 := ht2.ou f2 hgd
      have hp3 : m3 76 2 = nI 3 := by rw [f2 76 (by omega), h2.2.2, d1]
      refine ⟨_, c_takeWeights hG hg hgd ht3 hp3 f1 hn.2, ?_⟩
      intro r m4 hr
      obtain ⟨g1, g2, g3, g4, g5, g6⟩ := hr
      have ot4 : OtC g mem m4 := (h2.ot.tr f2.ot).tr g2
      generalize e3 : rdW tx len n 3 = R at g4 g5 g6 ⊢
      obtain ⟨p4, o⟩ := R
      rcases g6 with ⟨ev, rfl, g7, g8⟩ | ⟨ev, rfl⟩
      · dsimp only at ev
        subst ev
        dsimp only at g4 g5 ⊢
        have hw : ∀ v, v < n → (if v < n then wOf tx v else 1) ≤ 99 := fun v hv => by rw [if_pos hv]; exact g8 v hv
        refine ⟨fun z => absurd z (by decide), fun _ => ⟨_, c_takeEdges hG hg hgd g1 g4 g5 g7 hn hw, ?_⟩⟩
        intro r m5 hr
        obtain ⟨k1, k2, k3, k4⟩ := hr
        generalize e4 : rdE tx len n 12 p4 (fun _ _ => 0) = R at k3 k4 ⊢
        obtain ⟨p5, o⟩ := R
        rcases k4 with ⟨E', ev, rfl, k5, c', D', H', k6⟩ | ⟨ev, rfl⟩
        · dsimp only at ev
          subst ev
          dsimp only at k3 ⊢
          refine ⟨fun z => absurd z (by decide), fun _ => ⟨k1, ot4.tr k2, Or.inl ⟨n, E', rfl, rfl⟩, fun n' E'' z => ?_⟩⟩
          cases z
          exact ⟨_, c', D', H', k5, fun v hv => if_pos hv, k6⟩
        · dsimp only at ev
          subst ev
          dsimp only at k3 ⊢
          exact ⟨fun _ => ⟨k1, ot4.tr k2, Or.inr ⟨rfl, k3⟩, fun n' E'' z => by cases z⟩, fun z => absurd rfl z⟩
      · dsimp only at ev
        subst ev
        dsimp only at g4 g5 ⊢
        exact ⟨fun _ => ⟨g1, ot4, Or.inr ⟨rfl, g4⟩, fun n' E'' z => by cases z⟩, fun z => absurd rfl z⟩
    · dsimp only at ev
      subst ev
      dsimp only at hm2 ⊢
      exact ⟨fun z => absurd rfl z, fun _ => ⟨ht2, h2.ot, Or.inr ⟨rfl, h2.2.2⟩, fun n' E'' z => by cases z⟩⟩
  · rw [e1]
    exact ⟨fun z => absurd rfl z, fun _ => ⟨ht0, hz.ot, Or.inr ⟨rfl, hz.2.2⟩, fun n' E'' z => by cases z⟩⟩
end CT
