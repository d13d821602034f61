/-! constructor: WeightedForest -/
def wc (i : Nat) : Nat := if i = 0 then 1 else if i = 1 then 16 else if i = 2 then 30 else if i = 3 then 45 else if i = 4 then 59 else if i = 5 then 76 else if i = 6 then 79 else if i = 7 then 291 else if i = 8 then 295 else 326
def wf (n i a : Nat) : Value := if i < n then .ref a else .null
/-- the fields, n of them written -/
def WF (n : Nat) (ad : Nat → Nat) : List Value := [wf n 0 (ad (wc 0)), wf n 1 (ad (wc 1)), wf n 2 (ad (wc 2)), wf n 3 (ad (wc 3)), wf n 4 (ad (wc 4)), wf n 5 (ad (wc 5)), wf n 6 (ad (wc 6)), wf n 7 (ad (wc 7)), wf n 8 (ad (wc 8)), wf n 9 (ad (wc 9))]
theorem WF_cong {n k : Nat} {ad ad' : Nat → Nat} (hk : ∀ i, i < n → wc i < k) (h : ∀ i, i < k → ad i = ad' i) : WF n ad = WF n ad' := by
  have e : ∀ i, wf n i (ad (wc i)) = wf n i (ad' (wc i)) := fun i => by
    unfold wf
    by_cases c : i < n
    · rw [if_pos c, if_pos c, h _ (hk i c)]
    · rw [if_neg c, if_neg c]
  unfold WF
  rw [e 0, e 1, e 2, e 3, e 4, e 5, e 6, e 7, e 8, e 9]
/-- under making: k cells, n fields written -/
def Wb (G Gk : Gx) (k n : Nat) : Prop := (gD Gk = gD G ∧ gC Gk = gC G) ∧ gK Gk = k ∧ gA Gk 0 = gA G 0 ∧ gO Gk 0 = some (.inr (6, WF n (gA Gk))) ∧ (∀ i, 1 ≤ i → i < k → gO Gk i = none) ∧ Cl Gk
section WB
variable {G g g' : Gx} {k K n q : Nat} {e : va_E} {m m' : Mem}
theorem Wb.k1 (h : Wb G g k n) (q : Nat) (e : va_E) : gK (gPut g q e) = k + 1 := congrArg (· + 1) h.2.1
theorem Wb.o1 (h : Wb G g k n) (q : Nat) (e : va_E) : gO (gPut g q e) k = some e := if_pos h.2.1.symm
theorem Wb.a1 (h : Wb G g k n) (q : Nat) (e : va_E) : gA (gPut g q e) k = q := if_pos h.2.1.symm
theorem Wb.al (h : Wb G g k n) (q : Nat) (e : va_E) {i : Nat} (hi : i < k) : gA (gPut g q e) i = gA g i := if_neg (by rw [h.2.1]; omega)
theorem Wb.ol (h : Wb G g k n) (q : Nat) (e : va_E) {i : Nat} (hi : i < k) : gO (gPut g q e) i = gO g i := if_neg (by rw [h.2.1]; omega)
theorem Wb.o0 (h : Wb G g k n) (q : Nat) (e : va_E) (hk : 1 ≤ k) : gO (gPut g q e) 0 = some (.inr (6, WF n (gA g))) := (h.ol q e hk).trans h.2.2.2.1
theorem Wb.oe (h : Wb G g k n) (hk : 1 ≤ k) (hw : ∀ i, i < n → wc i < k) (gr : Gr (gPut g q e) g' k K m m') : gO g' 0 = some (.inr (6, WF n (gA g'))) := by
  rw [gr.2.2.2.1 0 hk, h.o0 q e hk, WF_cong hw (fun i hi => (h.al q e hi).symm.trans (gr.2.2.1 i (Nat.le_of_lt hi)).symm)]
theorem Wb.ae (h : Wb G g k n) (hk : 1 ≤ k) (gr : Gr (gPut g q e) g' k K m m') : gA g' 0 = gA G 0 := (gr.2.2.1 0 (Nat.zero_le _)).trans ((h.al q e hk).trans h.2.2.1)
theorem Wb.qe (h : Wb G g k n) (gr : Gr (gPut g q e) g' k K m m') : gA g' k = q := (gr.2.2.1 k (Nat.le_refl _)).trans (h.a1 q e)
theorem Wb.next (h : Wb G g k n) (hk : 1 ≤ k) (hkK : k < K) (gr : Gr (gPut g q e) g' k K m m') (hs : (WF n (gA g')).set n (.ref (gA g' k)) = WF (n + 1) (gA g')) : Wb G (gSet g' 0 (.inr (6, (WF n (gA g')).set n (.ref q)))) K (n + 1) := by
  have eO : ∀ i, gO (gSet g' 0 (.inr (6, (WF n (gA g')).set n (.ref q)))) i = if i = 0 then some (.inr (6, (WF n (gA g')).set n (.ref q))) else gO g' i := fun _ => rfl
  refine ⟨⟨gr.1.1.trans h.1.1, gr.1.2.trans h.1.2⟩, gr.2.1, show gA g' 0 = gA G 0 from h.ae hk gr, ?_, fun i h1 h2 => ?_, gr.2.2.2.2.2.1.set⟩
  · rw [eO, if_pos rfl, ← h.qe gr, hs]
    rfl
  · rw [eO, if_neg (by omega)]
    by_cases c : i < k
    · rw [gr.2.2.2.1 i c, h.ol q e c]
      exact h.2.2.2.2.1 i h1 c
    · exact gr.2.2.2.2.1 i (by omega) h2
end WB
theorem top_W {j : Nat} (h : j < 327) : top j ≤ 327 := by
  unfold top
  by_cases c0 : j = 0
  · rw [if_pos c0]; omega
  rw [if_neg c0]
  by_cases c1 : j < 16
  · rw [if_pos c1]; omega
  rw [if_neg c1]
  by_cases c2 : j < 30
  · rw [if_pos c2]; omega
  rw [if_neg c2]
  by_cases c3 : j < 45
  · rw [if_pos c3]; omega
  rw [if_neg c3]
  by_cases c4 : j < 59
  · rw [if_pos c4]; omega
  rw [if_neg c4]
  by_cases c5 : j < 76
  · rw [if_pos c5]; omega
  rw [if_neg c5]
  by_cases c6 : j < 79
  · rw [if_pos c6]; omega
  rw [if_neg c6]
  by_cases c7 : j < 81
  · rw [if_pos c7]; omega
  rw [if_neg c7]
  by_cases c8 : j < 291
  · rw [if_pos c8]; omega
  rw [if_neg c8]
  by_cases c9 : j < 295
  · rw [if_pos c9]; omega
  rw [if_neg c9]
  by_cases c10 : j = 295
  · rw [if_pos c10]; omega
  rw [if_neg c10]
  by_cases c11 : j < 326
  · rw [if_pos c11]; omega
  rw [if_neg c11]
  rw [if_pos (by omega)]
  omega
/-- the world while a row of forests is filled -/
def Rw_S (G Gk : Gx) (k : Nat) (fs : List Value) : Prop := (gD Gk = gD G ∧ gC Gk = gC G) ∧ gK Gk = 296 + 15 * k ∧ (∀ i, i < 296 → gA Gk i = gA G i) ∧ (∀ i, i < 296 → i ≠ 295 → gO Gk i = gO G i) ∧ gO Gk 0 = some (.inr (6, fs)) ∧ gO Gk 295 = some (rF (gC G) 2 (fun j => if j < k then some (gA Gk (296 + 15 * j)) else none)) ∧ (∀ i, 296 ≤ i → i < 296 + 15 * k → gO Gk i = none) ∧ Cl Gk
set_option maxRecDepth 100000 in
set_option maxHeartbeats 4000000 in
theorem fill_S {l : Launch} {G0 G : Gx} {mem : Mem} {P : Option Value → Gx → Mem → Prop} {fs : List Value} {a0 : Nat} (ha0 : gA G 0 = a0) (hg : fs[8]? = some (.ref (gA G 295))) (kend : ∀ (Gk : Gx) (mk : Mem), Rw_S G Gk 2 fs → (∀ i, i < 296 → mk i = mem i) → Xm l M_X6_init G0 326 3735 P Gk (295 + 15 * 2) (3391 + 171 * 2) mk 134 [(1, .int (nI 2)), (0, .ref a0)] []) : ∀ (d k : Nat), k + d = 2 → ∀ (Gk : Gx) (mk : Mem), Rw_S G Gk k fs → (∀ i, i < 296 → mk i = mem i) → Xm l M_X6_init G0 326 3735 P Gk (295 + 15 * k) (3391 + 171 * k) mk 110 [(1, .int (nI k)), (0, .ref a0)] [] := by
  intro d
  induction d with
  | zero =>
    intro k hk Gk mk hR hm
    have e : k = 2 := by omega
    subst e
    refine x_iload_n (pc := 110) dX6_init_110 0 rfl rfl ?_
    refine x_iconst (pc := 111) (v := 2) dX6_init_111 (by decide) ?_
    exact x_icmp_ge (pc := 112) (tgt := 134) dX6_init_112 (by decide) (fun _ => kend Gk mk hR hm) (fun z => absurd (by decide) z)
  | succ d ih =>
    intro k hk Gk mk hR hm
    obtain ⟨r1, r2, r3, r4, r5, r6, r7, r8⟩ := hR
    have ao : gA Gk 0 = a0 := (r3 0 (by omega)).trans ha0
    have ar : gA Gk 295 = gA G 295 := r3 295 (by omega)
    refine x_iload_n (pc := 110) dX6_init_110 0 rfl rfl ?_
    refine x_iconst (pc := 111) (v := 2) dX6_init_111 (by decide) ?_
    refine x_icmp_ge (pc := 112) (tgt := 134) dX6_init_112 (by decide) (fun z => absurd ((i_nle (a := 2) (by decide) (by omega)).mp z) (by omega)) (fun _ => ?_)
    refine x_aload_n (pc := 115) dX6_init_115 1 rfl rfl ?_
    refine x_eq (st2 := [.ref (gA Gk 0)]) rfl rfl (by rw [ao]) ?_
    refine x_get (pc := 116) 0 8 dX6_init_116 (by rw [r2]; omega) (cR_some r5) rfl inX6 (by decide) tb_200 rfl hg ?_
    refine x_iload_n (pc := 119) dX6_init_119 0 rfl rfl ?_
    refine x_new (pc := 120) (ci := 1) (fs := [.int 0, .null, .null]) r8 dX6_init_120 rfl inX1 tyX1 tyX1_ok tb_53 tb_54 tb_32 (fun j hj => by rcases (by omega : j = 0 ∨ j = 1 ∨ j = 2) with rfl | rfl | rfl <;> rfl) (by show _ ≤ 326; omega) (by show _ ≤ 3735; omega) (fun q => ?_)
    have k1 : gK (gPut Gk q (.inr (1, [.int 0, .null, .null]))) = 296 + 15 * k + 1 := congrArg (· + 1) r2
    have a1 : ∀ i, i < 296 + 15 * k → gA (gPut Gk q (.inr (1, [.int 0, .null, .null]))) i = gA Gk i := fun i hi => if_neg (by omega)
    have a2 : gA (gPut Gk q (.inr (1, [.int 0, .null, .null]))) (296 + 15 * k) = q := if_pos r2.symm
    have o1 : ∀ i, i < 296 + 15 * k → gO (gPut Gk q (.inr (1, [.int 0, .null, .null]))) i = gO Gk i := fun i hi => if_neg (by omega)
    have o2 : gO (gPut Gk q (.inr (1, [.int 0, .null, .null]))) (296 + 15 * k) = some (.inr (1, [.int 0, .null, .null])) := if_pos r2.symm
    have c1 : Cl (gPut Gk q (.inr (1, [.int 0, .null, .null]))) := r8.put
    have d1 : gD (gPut Gk q (.inr (1, [.int 0, .null, .null]))) = gD G ∧ gC (gPut Gk q (.inr (1, [.int 0, .null, .null]))) = gC G := r1
    generalize gPut Gk q (.inr (1, [.int 0, .null, .null])) = G1 at k1 a1 a2 o1 o2 c1 d1 ⊢
    have hb : isF (296 + 15 * k) = true := by unfold isF; simp only [Bool.or_eq_true, Bool.and_eq_true, decide_eq_true_eq, beq_iff_eq]; omega
    refine x_dup (pc := 123) dX6_init_123 rfl ?_
    refine x_eq (st2 := [.ref (gA G1 (296 + 15 * k)), .ref q, .int (nI k), .ref (gA G 295)]) rfl rfl (by rw [a2]) ?_
    refine x_callI (pc := 124) (296 + 15 * k) (i_Forest hb k1 o2 c1) ok_X1_init dX6_init_124 tb_55 ⟨⟨rfl, rfl⟩, ⟨Nat.le_of_ble_eq_true rfl, Nat.le_of_ble_eq_true rfl⟩, by show _ ≤ 326; omega, by show _ ≤ 3735; omega⟩ (As := []) rfl rfl (Nat.le_of_ble_eq_true rfl) (fun v G' m' hv _ _ => ?_)
    obtain ⟨rfl, ⟨g1, g2, g3, g4, g5, g6, g7⟩, -⟩ := hv
    have e1 : gA G' (296 + 15 * k) = q := (g3 _ (Nat.le_refl _)).trans a2
    have e2 : gA G' 295 = gA G 295 := (g3 295 (by omega)).trans ((a1 295 (by omega)).trans ar)
    have e3 : gO G' 295 = some (rF (gC G') 2 (fun j => if j < k then some (gA Gk (296 + 15 * j)) else none)) := by rw [g4 295 (by omega), o1 295 (by omega), r6, g1.2, d1.2]
    have hf : Fo G' (296 + 15 * k) := ⟨hb, by rw [g2]; omega, fun i hi => g5 _ (by omega) (by omega)⟩
    refine x_eq (st2 := [.ref (gA G' (296 + 15 * k)), .int (nI k), .ref (gA G' 295)]) rfl rfl (by rw [e1, e2]; rfl) ?_
    refine x_astF (pc := 127) 295 (296 + 15 * k) dX6_init_127 (by rw [g2]; omega) e3 (by rw [g2]; omega) (Fo_c0 hf _) (i_in (by omega) (by decide)) ?_
    rw [i_cl (by omega)]
    refine x_iinc (pc := 128) (k := 0) (v := nI (k + 1)) (lv' := [(1, .int (nI (k + 1))), (0, .ref a0)]) dX6_init_128 rfl (nI_1 k) (by decide) rfl ?_
    refine x_goto (pc := 131) (tgt := 110) dX6_init_131 (by decide) ?_
    refine x_widen (c2 := 295 + 15 * (k + 1)) (s2 := 3391 + 171 * (k + 1)) (by omega) (by omega) ?_
    have bO : ∀ i, gO (gSet G' 295 (rF (gC G') 2 (va_up (fun j => if j < k then some (gA Gk (296 + 15 * j)) else none) k (some (gA G' (296 + 15 * k)))))) i = if i = 295 then some (rF (gC G') 2 (va_up (fun j => if j < k then some (gA Gk (296 + 15 * j)) else none) k (some (gA G' (296 + 15 * k))))) else gO G' i := fun _ => rfl
    refine ih (k + 1) (by omega) _ m' ⟨⟨g1.1.trans d1.1, g1.2.trans d1.2⟩, ?_, fun i hi => ?_, fun i hi hne => ?_, ?_, ?_, fun i h1 h2 => ?_, g6.set⟩ (fun i hi => (g7 i (by omega)).trans (hm i hi))
    · show gK G' = _
      rw [g2]; omega
    · show gA G' i = _
      rw [g3 i (by omega), a1 i (by omega), r3 i hi]
    · rw [bO, if_neg hne, g4 i (by omega), o1 i (by omega), r4 i hi hne]
    · rw [bO, if_neg (by decide), g4 0 (by omega), o1 0 (by omega), r5]
    · rw [bO, if_pos rfl, g1.2, d1.2]
      refine congrArg (fun f => some (rF (gC G) 2 f)) ?_
      funext j
      unfold va_up
      by_cases cj : j = k
      · rw [if_pos cj, if_pos (by omega), cj]; rfl
      · rw [if_neg cj]
        show (if j < k then some (gA Gk (296 + 15 * j)) else none) = (if j < k + 1 then some (gA G' (296 + 15 * j)) else none)
        by_cases cj2 : j < k
        · rw [if_pos cj2, if_pos (by omega)]
          rw [g3 _ (by omega), a1 _ (by omega)]
        · rw [if_neg cj2, if_neg (by omega)]
    · rw [bO, if_neg (by omega)]
      by_cases ci : i < 296 + 15 * k
      · rw [g4 i ci, o1 i ci]; exact r7 i h1 ci
      · exact g5 i (by omega) (by omega)
