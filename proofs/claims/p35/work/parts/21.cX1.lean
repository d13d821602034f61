/-! contracts: Arrays.fill, Forest -/
theorem CtI_of {l : Launch} {M : MTy} {G : Gx} {As : List Value} {mem : Mem} {P : Int32 → Mem → Prop} (hy : plainName M.1.cls = true) (hn : (lg_sl As).length ≤ M.2.2.1) {lv : Lv} (hlv : lv_args 0 As = lv) (k : XI l M G P mem 0 lv []) : CtI l M G As mem P := Ctg.of hy hn hlv k
theorem CtL_of {l : Launch} {M : MTy} {G : Gx} {As : List Value} {mem : Mem} {P : Int64 → Mem → Prop} (hy : plainName M.1.cls = true) (hn : (lg_sl As).length ≤ M.2.2.1) {lv : Lv} (hlv : lv_args 0 As = lv) (k : XL l M G P mem 0 lv []) : CtL l M G As mem P := Ctg.of hy hn hlv k
theorem CtV_of {l : Launch} {M : MTy} {G : Gx} {As : List Value} {mem : Mem} {P : Mem → Prop} (hy : plainName M.1.cls = true) (hn : (lg_sl As).length ≤ M.2.2.1) {lv : Lv} (hlv : lv_args 0 As = lv) (k : XV l M G P mem 0 lv []) : CtV l M G As mem P := Ctg.of hy hn hlv k
theorem c_fill {l : Launch} {G : Gx} {r n : Nat} (hr : Ia G r n) (hn : n < 2147483648) (v : Int32) (mem : Mem) : CtV l M_J7_fill_53178 G [.ref (gA G r), .int v] mem (fun m' => (∀ a, a ≠ r → m' a = mem a) ∧ ∀ k, k < n → m' r k = v) := by
  refine CtV_of (by decide) (Nat.le_of_ble_eq_true rfl) rfl (t_J7_fill_53178_0 hr v mem ?_)
  refine up_loop (P := fun k => ∀ m : Mem, (∀ a, a ≠ r → m a = mem a) → (∀ i, i < k → m r i = v) → XV l M_J7_fill_53178 G _ m 5 [(0, .ref (gA G r)), (1, .int v), (2, .int (nI k)), (3, .int (nI n))] []) (n := n) (Nat.zero_le n) ?_ ?_ mem (fun _ _ => rfl) (fun i hi => absurd hi (Nat.not_lt_zero i))
  · intro m h1 h2
    exact t_J7_fill_53178_5 hr _ _ _ m ⟨fun _ => ⟨h1, h2⟩, fun h => absurd ((i_nle hn hn).mpr (Nat.le_refl _)) h⟩
  · intro k _ hk ih m h1 h2
    refine t_J7_fill_53178_5 hr _ _ _ m ⟨fun h => absurd ((i_nle hn (by omega)).mp h) (by omega), fun _ => ⟨i_in hk hn, ?_⟩⟩
    rw [nI_1, i_cl (by omega)]
    refine ih _ (fun a ha => by rw [wr_n ha]; exact h1 a ha) (fun i hi => ?_)
    rw [wr_at]
    split
    · rfl
    · exact h2 i (by omega)
/-- a forest's cells hold n vertices, the weights w, the edges E -/
def FoAt (mem : Mem) (f n : Nat) (w : Nat → Nat) (E : Nat → Nat → Nat) : Prop :=
  mem f 0 = nI n ∧ (∀ v, v < 12 → mem (f + 1) v = nI (w v)) ∧ ∀ u v, u < 12 → v < 12 → mem (f + 3 + u) v = nI (E u v)
/-- nothing changed outside lo .. hi - 1 -/
def Out (lo hi : Nat) (mem mem' : Mem) : Prop := ∀ a, (a < lo ∨ hi ≤ a) → mem' a = mem a
theorem Out.rf {lo hi : Nat} {mem : Mem} : Out lo hi mem mem := fun _ _ => rfl
theorem Out.tr {lo hi : Nat} {m1 m2 m3 : Mem} (h : Out lo hi m1 m2) (h2 : Out lo hi m2 m3) : Out lo hi m1 m3 := fun a ha => (h2 a ha).trans (h a ha)
theorem Out.wd {lo hi lo2 hi2 : Nat} {m1 m2 : Mem} (h : Out lo hi m1 m2) (h1 : lo2 ≤ lo) (h2 : hi ≤ hi2) : Out lo2 hi2 m1 m2 := fun a ha => h a (by omega)
theorem Out.wr {lo hi : Nat} {m1 m2 : Mem} {j : Nat} {g : Nat → Int32} (h : Out lo hi m1 m2) (h1 : lo ≤ j) (h2 : j < hi) : Out lo hi m1 (wrA m2 j g) := fun a ha => by rw [wrA_n (by omega)]; exact h a ha
theorem FoAt.out {lo hi f n : Nat} {w : Nat → Nat} {E : Nat → Nat → Nat} {m m' : Mem} (h : FoAt m f n w E) (ho : Out lo hi m m') (hd : f + 15 ≤ lo ∨ hi ≤ f) : FoAt m' f n w E :=
  ⟨by rw [ho _ (by omega)]; exact h.1, fun v hv => by rw [ho _ (by omega)]; exact h.2.1 v hv, fun u v hu hv => by rw [ho _ (by omega)]; exact h.2.2 u v hu hv⟩
theorem FoAt.cong {f n : Nat} {w w' : Nat → Nat} {E E' : Nat → Nat → Nat} {m : Mem} (h : FoAt m f n w E) (hw : ∀ v, v < 12 → w v = w' v) (hE : ∀ u v, u < 12 → v < 12 → E u v = E' u v) : FoAt m f n w' E' :=
  ⟨h.1, fun v hv => by rw [← hw v hv]; exact h.2.1 v hv, fun u v hu hv => by rw [← hE u v hu hv]; exact h.2.2 u v hu hv⟩
section CF
variable {l : Launch} {G : Gx} {f n : Nat} {w : Nat → Nat} {E : Nat → Nat → Nat} {mem : Mem}
theorem c_vertices (hf : Fo G f) (h : FoAt mem f n w E) : CtI l M_X1_vertices G [.ref (gA G f)] mem (fun r m => m = mem ∧ r = nI n) :=
  CtI_of (by decide) (Nat.le_of_ble_eq_true rfl) rfl (t_X1_vertices_0 hf mem ⟨rfl, h.1⟩)
theorem c_hasVertex (hf : Fo G f) (h : FoAt mem f n w E) (hn : n ≤ 12) (v : Int32) : CtI l M_X1_hasVertex G [.ref (gA G f), .int v] mem (fun r m => m = mem ∧ r = if 0 ≤ v.toInt ∧ v.toInt < n then 1 else 0) := by
  refine CtI_of (by decide) (Nat.le_of_ble_eq_true rfl) rfl (t_X1_hasVertex_0 hf v mem ?_)
  rw [h.1]
  simp (disch := omega) only [i_lt, i_le, i_nI, i_0, true_and]
  refine ⟨fun a => ?_, fun a => ⟨fun b => ?_, fun b => ?_⟩⟩ <;> (try rw [if_neg (by omega)]) <;> (try rw [if_pos (by omega)])
theorem c_hasVertices (hf : Fo G f) (h : FoAt mem f n w E) (hn : n ≤ 12) (u v : Int32) : CtI l M_X1_hasVertices G [.ref (gA G f), .int u, .int v] mem (fun r m => m = mem ∧ r = if (0 ≤ u.toInt ∧ u.toInt < n) ∧ 0 ≤ v.toInt ∧ v.toInt < n then 1 else 0) := by
  refine CtI_of (by decide) (Nat.le_of_ble_eq_true rfl) rfl (t_X1_hasVertices_0 hf u v mem ?_)
  rw [h.1]
  simp (disch := omega) only [i_lt, i_le, i_nI, i_0, true_and]
  refine ⟨fun a => ?_, fun a => ⟨fun b => ?_, fun b => ⟨fun c => ?_, fun c => ⟨fun d => ?_, fun d => ?_⟩⟩⟩⟩ <;> (try rw [if_neg (by omega)]) <;> (try rw [if_pos (by omega)])
theorem vtx {u : Nat} (hu : u < n) (hn : n ≤ 12) : 0 ≤ (nI u).toInt ∧ (nI u).toInt < n := by rw [i_nI (by omega)]; omega
theorem c_hasVertices' (hf : Fo G f) (h : FoAt mem f n w E) (hn : n ≤ 12) {u v : Nat} (hu : u < n) (hv : v < n) : CtI l M_X1_hasVertices G [.ref (gA G f), .int (nI u), .int (nI v)] mem (fun r m => m = mem ∧ r = 1) :=
  (c_hasVertices hf h hn _ _).mono (fun r m q => ⟨q.1, by rw [q.2, if_pos ⟨vtx hu hn, vtx hv hn⟩]⟩)
theorem c_hasVertex' (hf : Fo G f) (h : FoAt mem f n w E) (hn : n ≤ 12) {u : Nat} (hu : u < n) : CtI l M_X1_hasVertex G [.ref (gA G f), .int (nI u)] mem (fun r m => m = mem ∧ r = 1) :=
  (c_hasVertex hf h hn _).mono (fun r m q => ⟨q.1, by rw [q.2, if_pos (vtx hu hn)]⟩)
theorem c_weightOf (hf : Fo G f) (h : FoAt mem f n w E) (hn : n ≤ 12) {v : Nat} (hv : v < n) : CtI l M_X1_weightOf G [.ref (gA G f), .int (nI v)] mem (fun r m => m = mem ∧ r = nI (w v)) := by
  refine CtI_of (by decide) (Nat.le_of_ble_eq_true rfl) rfl (t_X1_weightOf_0 hf _ mem ⟨_, c_hasVertex' hf h hn hv, ?_⟩)
  rintro r m ⟨rfl, rfl⟩
  refine ⟨fun a => absurd a (by decide), fun _ => ⟨i_in (by omega) (by decide), ?_⟩⟩
  rw [i_cl (by omega)]
  exact ⟨rfl, h.2.1 v (by omega)⟩
theorem c_edgeBetween (hf : Fo G f) (h : FoAt mem f n w E) (hn : n ≤ 12) {u v : Nat} (hu : u < n) (hv : v < n) : CtI l M_X1_edgeBetween G [.ref (gA G f), .int (nI u), .int (nI v)] mem (fun r m => m = mem ∧ r = nI (E u v)) := by
  refine CtI_of (by decide) (Nat.le_of_ble_eq_true rfl) rfl (t_X1_edgeBetween_0 hf _ _ mem ⟨_, c_hasVertices' hf h hn hu hv, ?_⟩)
  rintro r m ⟨rfl, rfl⟩
  refine ⟨fun a => absurd a (by decide), fun _ => ⟨i_in (by omega) (by decide), i_in (by omega) (by decide), ?_⟩⟩
  rw [i_cl (by omega), i_cl (by omega)]
  exact ⟨rfl, h.2.2 u v (by omega) (by omega)⟩
theorem c_hasEdge (hf : Fo G f) (h : FoAt mem f n w E) (hn : n ≤ 12) {u v : Nat} (hu : u < n) (hv : v < n) (hE : E u v < 2147483648) : CtI l M_X1_hasEdge G [.ref (gA G f), .int (nI u), .int (nI v)] mem (fun r m => m = mem ∧ r = if 0 < E u v then 1 else 0) := by
  refine CtI_of (by decide) (Nat.le_of_ble_eq_true rfl) rfl (t_X1_hasEdge_0 hf _ _ mem ⟨_, c_edgeBetween hf h hn hu hv, ?_⟩)
  rintro r m ⟨rfl, rfl⟩
  refine ⟨fun a => ⟨rfl, ?_⟩, fun a => ⟨rfl, ?_⟩⟩ <;> rw [i_eq, i_nI hE, i_0] at a
  · rw [if_neg (by omega)]
  · rw [if_pos (by omega)]
def updE (E : Nat → Nat → Nat) (u v x : Nat) : Nat → Nat → Nat := fun a b => if (a = u ∧ b = v) ∨ (a = v ∧ b = u) then x else E a b
theorem c_putEdge (hf : Fo G f) (h : FoAt mem f n w E) (hn : n ≤ 12) {u v x : Nat} (hu : u < n) (hv : v < n) : CtV l M_X1_putEdge G [.ref (gA G f), .int (nI u), .int (nI v), .int (nI x)] mem (fun m => FoAt m f n w (updE E u v x) ∧ Out f (f + 15) mem m) := by
  refine CtV_of (by decide) (Nat.le_of_ble_eq_true rfl) rfl (t_X1_putEdge_0 hf _ _ _ mem ⟨_, c_hasVertices' hf h hn hu hv, ?_⟩)
  rintro r m ⟨rfl, rfl⟩
  refine ⟨fun a => absurd a (by decide), fun _ => ⟨i_in (by omega) (by decide), i_in (by omega) (by decide), i_in (by omega) (by decide), i_in (by omega) (by decide), ?_⟩⟩
  rw [i_cl (by omega), i_cl (by omega)]
  refine ⟨⟨?_, fun q hq => ?_, fun a b ha hb => ?_⟩, (Out.rf.wr (by omega) (by omega)).wr (by omega) (by omega)⟩
  · rw [wr_n (by omega), wr_n (by omega)]; exact h.1
  · rw [wr_n (by omega), wr_n (by omega)]; exact h.2.1 q hq
  · have e := h.2.2 a b ha hb
    rw [wr_at, wr_at]
    unfold updE
    split
    · rw [if_pos (by omega)]
    · split
      · rw [if_pos (by omega)]
      · rw [if_neg (by omega)]; exact e
def updW (w : Nat → Nat) (v x : Nat) : Nat → Nat := fun a => if a = v then x else w a
theorem c_putWeight (hf : Fo G f) (h : FoAt mem f n w E) (hn : n ≤ 12) {v x : Nat} (hv : v < n) : CtV l M_X1_putWeight G [.ref (gA G f), .int (nI v), .int (nI x)] mem (fun m => FoAt m f n (updW w v x) E ∧ Out f (f + 15) mem m) := by
  refine CtV_of (by decide) (Nat.le_of_ble_eq_true rfl) rfl (t_X1_putWeight_0 hf _ _ mem ⟨_, c_hasVertex' hf h hn hv, ?_⟩)
  rintro r m ⟨rfl, rfl⟩
  refine ⟨fun a => absurd a (by decide), fun _ => ⟨i_in (by omega) (by decide), ?_⟩⟩
  rw [i_cl (by omega)]
  refine ⟨⟨?_, fun q hq => ?_, fun a b ha hb => ?_⟩, Out.rf.wr (by omega) (by omega)⟩
  · rw [wr_n (by omega)]; exact h.1
  · rw [wr_at]
    unfold updW
    split
    · rw [if_pos (by omega)]
    · rw [if_neg (by omega)]; exact h.2.1 q hq
  · rw [wr_n (by omega)]; exact h.2.2 a b ha hb
/-- how many edges -/
def cntR (E : Nat → Nat → Nat) (u : Nat) : Nat → Nat
  | 0 => 0
  | k + 1 => cntR E u k + if u < k ∧ 0 < E u k then 1 else 0
def cntE (E : Nat → Nat → Nat) (n : Nat) : Nat → Nat
  | 0 => 0
  | k + 1 => cntE E n k + cntR E k n
theorem cntR_le (E : Nat → Nat → Nat) (u : Nat) : ∀ k, cntR E u k ≤ k
  | 0 => Nat.le_refl 0
  | k + 1 => by
    have := cntR_le E u k
    unfold cntR
    split <;> omega
theorem cntE_le (E : Nat → Nat → Nat) (n : Nat) : ∀ k, cntE E n k ≤ k * n
  | 0 => Nat.zero_le _
  | k + 1 => by
    have h1 := cntE_le E n k
    have h2 := cntR_le E k n
    unfold cntE
    rw [Nat.succ_mul]
    omega
theorem cntR_lo (E : Nat → Nat → Nat) (u : Nat) : ∀ k, k ≤ u + 1 → cntR E u k = 0
  | 0, _ => rfl
  | k + 1, h => by
    unfold cntR
    rw [cntR_lo E u k (by omega), if_neg (by omega)]
theorem c_edgeCount (hf : Fo G f) (h : FoAt mem f n w E) (hn : n ≤ 12) (hE : ∀ u v, u < n → v < n → E u v < 2147483648) : CtI l M_X1_edgeCount G [.ref (gA G f)] mem (fun r m => m = mem ∧ r = nI (cntE E n n)) := by
  refine CtI_of (by decide) (Nat.le_of_ble_eq_true rfl) rfl (t_X1_edgeCount_0 hf mem ?_)
  refine up_loop (P := fun u => XI l M_X1_edgeCount G _ mem 4 [(0, .ref (gA G f)), (1, .int (nI (cntE E n u))), (2, .int (nI u))] []) (n := n) (Nat.zero_le n) ?_ ?_
  · refine t_X1_edgeCount_4 hf _ _ mem ?_
    rw [h.1]
    exact ⟨fun _ => ⟨rfl, rfl⟩, fun q => absurd ((i_nle (by omega) (by omega)).mpr (Nat.le_refl _)) q⟩
  · intro u _ hu ih
    refine t_X1_edgeCount_4 hf _ _ mem ?_
    rw [h.1]
    refine ⟨fun q => absurd ((i_nle (by omega) (by omega)).mp q) (by omega), fun _ => ?_⟩
    rw [nI_1]
    have key : XI l M_X1_edgeCount G (fun r m => m = mem ∧ r = nI (cntE E n n)) mem 16 [(0, .ref (gA G f)), (1, .int (nI (cntE E n u + cntR E u (u + 1)))), (2, .int (nI u)), (3, .int (nI (u + 1)))] [] := by
      refine up_loop (P := fun v => XI l M_X1_edgeCount G _ mem 16 [(0, .ref (gA G f)), (1, .int (nI (cntE E n u + cntR E u v))), (2, .int (nI u)), (3, .int (nI v))] []) (n := n) (by omega) ?_ ?_
      · refine t_X1_edgeCount_16 hf _ _ _ mem ?_
        rw [h.1]
        refine ⟨fun _ => ?_, fun q => absurd ((i_nle (by omega) (by omega)).mpr (Nat.le_refl _)) q⟩
        rw [nI_1]
        exact ih
      · intro v hv1 hv ih2
        refine t_X1_edgeCount_16 hf _ _ _ mem ?_
        rw [h.1]
        refine ⟨fun q => absurd ((i_nle (by omega) (by omega)).mp q) (by omega), fun _ => ⟨_, c_hasEdge hf h hn hu hv (hE u v hu hv), ?_⟩⟩
        rintro r m ⟨rfl, rfl⟩
        unfold cntR at ih2
        rw [nI_1, nI_1]
        by_cases c : 0 < E u v
        · rw [if_pos ⟨by omega, c⟩, ← Nat.add_assoc] at ih2
          rw [if_pos c]
          exact ⟨fun q => absurd q (by decide), fun _ => ih2⟩
        · rw [if_neg (by omega), Nat.add_zero] at ih2
          rw [if_neg c]
          exact ⟨fun _ => ih2, fun q => absurd rfl q⟩
    rw [cntR_lo E u (u + 1) (Nat.le_refl _), Nat.add_zero] at key
    exact key
/-- Arrays of a forest, copied -/
theorem c_become {g n2 : Nat} {w2 : Nat → Nat} {E2 : Nat → Nat → Nat} (hf : Fo G f) (hg : Fo G g) (h : FoAt mem g n2 w2 E2) (hd : f + 15 ≤ g ∨ g + 15 ≤ f) : CtV l M_X1_become G [.ref (gA G f), .ref (gA G g)] mem (fun m => FoAt m f n2 w2 E2 ∧ Out f (f + 15) mem m) := by
  refine CtV_of (by decide) (Nat.le_of_ble_eq_true rfl) rfl (t_X1_become_0 hf hg mem ?_)
  refine up_loop (P := fun k => ∀ m : Mem, Out f (f + 15) mem m → m f 0 = nI n2 → (∀ v, v < 12 → m (f + 1) v = nI (w2 v)) → (∀ u v, u < k → v < 12 → m (f + 3 + u) v = nI (E2 u v)) → XV l M_X1_become G _ m 25 [(0, .ref (gA G f)), (1, .ref (gA G g)), (2, .int (nI k))] []) (n := 12) (Nat.zero_le _) ?_ ?_ _ ?_ ?_ ?_ (fun u v hu => absurd hu (Nat.not_lt_zero u))
  · intro m ho h1 h2 h3
    exact t_X1_become_25 hf hg _ m ⟨fun _ => ⟨⟨h1, h2, h3⟩, ho⟩, fun q => absurd (by decide) q⟩
  · intro k _ hk ih m ho h1 h2 h3
    refine t_X1_become_25 hf hg _ m ⟨fun q => absurd ((i_nle (a := 12) (by decide) (by omega)).mp q) (by omega), fun _ => ⟨i_in hk (by decide), i_in hk (by decide), ?_⟩⟩
    rw [nI_1, i_cl (by omega)]
    refine ih _ (ho.wr (by omega) (by omega)) ?_ (fun v hv => ?_) (fun u v hu hv => ?_)
    · rw [wrA_n (by omega)]; exact h1
    · rw [wrA_n (by omega)]; exact h2 v hv
    · rw [wrA_at]
      split
      · next e =>
        have e : u = k := by omega
        subst e
        rw [pk_cpy_in (Nat.zero_le _) (show v < 0 + 12 by omega), ho _ (by omega)]
        rw [show (0 : Nat) + (v - 0) = v by omega]
        exact h.2.2 u v hk hv
      · exact h3 u v (by omega) hv
  · exact (Out.rf.wr (by omega) (by omega)).wr (by omega) (by omega)
  · rw [wrA_n (by omega), wr_s, upd_s]
    exact h.1
  · intro v hv
    rw [wrA_s, pk_cpy_in (Nat.zero_le _) (show v < 0 + 12 by omega), wr_n (by omega), show (0 : Nat) + (v - 0) = v by omega]
    exact h.2.1 v hv
theorem c_reset (hf : Fo G f) {k : Nat} (hk : 1 ≤ k) (hk2 : k ≤ 12) : CtV l M_X1_reset G [.ref (gA G f), .int (nI k)] mem (fun m => FoAt m f k (fun _ => 1) (fun _ _ => 0) ∧ Out f (f + 15) mem m) := by
  refine CtV_of (by decide) (Nat.le_of_ble_eq_true rfl) rfl (t_X1_reset_0 hf _ mem ?_)
  have e1 : (if (12 : Int32) < nI k then (12 : Int32) else nI k) = nI k := by rw [if_neg]; rw [i_lt, i_nI (by omega), i_12]; omega
  have e2 : (if (1 : Int32) < nI k then nI k else (1 : Int32)) = nI k := by
    split
    · rfl
    · next q => rw [i_lt, i_nI (by omega), i_1] at q; rw [i_eq, i_nI (by omega), i_1]; omega
  rw [e1, e2]
  refine ⟨_, c_fill ⟨Fo_K (i := 1) hf (by decide), Fo_c1 hf⟩ (by decide) 1 _, fun m hm => ?_⟩
  refine up_loop (P := fun q => ∀ m : Mem, Out f (f + 15) mem m → m f 0 = nI k → (∀ v, v < 12 → m (f + 1) v = 1) → (∀ u v, u < q → v < 12 → m (f + 3 + u) v = 0) → XV l M_X1_reset G _ m 24 [(0, .ref (gA G f)), (2, .int (nI q))] []) (n := 12) (Nat.zero_le _) ?_ ?_ m ?_ ?_ hm.2 (fun u v hu => absurd hu (Nat.not_lt_zero u))
  · intro m ho h1 h2 h3
    exact t_X1_reset_24 hf _ m ⟨fun _ => ⟨⟨h1, h2, h3⟩, ho⟩, fun q => absurd (by decide) q⟩
  · intro q _ hq ih m ho h1 h2 h3
    refine t_X1_reset_24 hf _ m ⟨fun z => absurd ((i_nle (a := 12) (by decide) (by omega)).mp z) (by omega), fun _ => ⟨i_in hq (by decide), ?_⟩⟩
    rw [i_cl (by omega), nI_1]
    refine ⟨_, c_fill ⟨Fo_K3 hf hq, Fo_c3 hf hq⟩ (by decide) 0 m, ?_⟩
    · intro m2 hm2
      refine ih m2 (fun a ha => (hm2.1 a (by omega)).trans (ho a ha)) ((congrFun (hm2.1 _ (by omega)) 0).trans h1) (fun v hv => (congrFun (hm2.1 _ (by omega)) v).trans (h2 v hv)) (fun u v hu hv => ?_)
      by_cases c : u = q
      · subst c; exact hm2.2 v hv
      · exact (congrFun (hm2.1 _ (by omega)) v).trans (h3 u v (by omega) hv)
  · intro a ha
    rw [hm.1 a (by omega), wr_n (by omega)]
  · rw [hm.1 f (by omega), wr_s, upd_s]
end CF
