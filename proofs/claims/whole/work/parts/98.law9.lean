/-! THE LAW: a step, the loop -/
section LAW
variable {l : Launch} {nm : String} {b L i : Nat} {xs : Nat → Int32} {G : Gx} {mem : Mem}
set_option maxRecDepth 100000 in
set_option maxHeartbeats 4000000 in
theorem law_end (hL : L ≤ 2048) (hG : Mn G) (q : L < i + 4) (hi : i ≤ L + 4) : XLw l nm b L xs G mem 18 (lvL b i G) [] := by
  have e4 : (Int32.ofNat L - 4).toInt = (L : Int) - 4 := by
    rw [show Int32.ofNat L = nI L from rfl, i_sub (by rw [i_nI (by omega)]; show _ ≤ _ - (4 : Int); omega) (by rw [i_nI (by omega)]; show _ - (4 : Int) < _; omega), i_nI (by omega)]; rfl
  refine x_iload_n (pc := 18) dL_law_18 0 rfl rfl ?_
  refine x_aload_n (pc := 19) dL_law_19 3 rfl rfl ?_
  refine x_slen (pc := 20) dL_law_20 ?_
  refine x_iconst (pc := 21) (v := 4) dL_law_21 (by decide) ?_
  refine x_isub (pc := 22) dL_law_22 ?_
  refine x_icmp_gt (pc := 23) (tgt := 1129) dL_law_23 (by decide) (fun _ => ?_) (fun z => absurd (by rw [i_lt, e4, i_nI (by omega)]; omega) z)
  refine x_iconst (pc := 1129) (v := 1) dL_law_1129 (by decide) ?_
  exact x_lend dL_law_1130
set_option maxRecDepth 100000 in
set_option maxHeartbeats 4000000 in
theorem law_step (hL : L ≤ 2048) (hG : Mn G) (q : i + 4 ≤ L) (I : Inv mem) (kk : ∀ mem' : Mem, Inv mem' → XLw l nm b L xs G mem' 18 (lvL b (i + 4) G) []) : XLw l nm b L xs G mem 18 (lvL b i G) [] := by
  have e4 : (Int32.ofNat L - 4).toInt = (L : Int) - 4 := by
    rw [show Int32.ofNat L = nI L from rfl, i_sub (by rw [i_nI (by omega)]; show _ ≤ _ - (4 : Int); omega) (by rw [i_nI (by omega)]; show _ - (4 : Int) < _; omega), i_nI (by omega)]; rfl
  have h1 : vp_in (nI i + 1) L := by rw [show nI i + 1 = nI (i + 1) from nI_add i 1]; exact i_in (by omega) (by omega)
  have h2 : vp_in (nI i + 2) L := by rw [show nI i + 2 = nI (i + 2) from nI_add i 2]; exact i_in (by omega) (by omega)
  have h3 : vp_in (nI i + 3) L := by rw [show nI i + 3 = nI (i + 3) from nI_add i 3]; exact i_in (by omega) (by omega)
  have h : ∀ mem' : Mem, Inv mem' → XLw l nm b L xs G mem' 1123 (lvL b i G) [] := by
    intro mem' I'
    refine x_iinc (pc := 1123) (k := 0) (v := nI (i + 4)) (lv' := lvL b (i + 4) G) dL_law_1123 rfl (nI_add i 4) (show 3 < 4 by decide) rfl ?_
    refine x_goto (pc := 1126) (tgt := 18) dL_law_1126 (by decide) ?_
    exact kk mem' I'
  refine x_iload_n (pc := 18) dL_law_18 0 rfl rfl ?_
  refine x_aload_n (pc := 19) dL_law_19 3 rfl rfl ?_
  refine x_slen (pc := 20) dL_law_20 ?_
  refine x_iconst (pc := 21) (v := 4) dL_law_21 (by decide) ?_
  refine x_isub (pc := 22) dL_law_22 ?_
  refine x_icmp_gt (pc := 23) (tgt := 1129) dL_law_23 (by decide) (fun z => ?_) (fun _ => ?_)
  · rw [i_lt, e4, i_nI (by omega)] at z
    omega
  refine x_aload_n (pc := 26) dL_law_26 3 rfl rfl ?_
  refine x_iload_n (pc := 27) dL_law_27 0 rfl rfl ?_
  refine x_sld (pc := 28) (i_in (by omega) (by omega)) dL_law_28 ?_
  refine x_bipush (pc := 29) (v := 31) dL_law_29 (by decide) ?_
  refine x_iand (pc := 31) dL_law_31 ?_
  generalize xs (nI i).toNatClampNeg = y
  have hb := and31 y
  generalize y &&& 31 = t at hb
  have cs : t.toInt = 0 ∨ t.toInt = 1 ∨ t.toInt = 2 ∨ t.toInt = 3 ∨ t.toInt = 4 ∨ t.toInt = 5 ∨ t.toInt = 6 ∨ t.toInt = 7 ∨ t.toInt = 8 ∨ t.toInt = 9 ∨ t.toInt = 10 ∨ t.toInt = 11 ∨ t.toInt = 12 ∨ t.toInt = 13 ∨ t.toInt = 14 ∨ t.toInt = 15 ∨ t.toInt = 16 ∨ t.toInt = 17 ∨ t.toInt = 18 ∨ t.toInt = 19 ∨ t.toInt = 20 ∨ t.toInt = 21 ∨ t.toInt = 22 ∨ t.toInt = 23 ∨ t.toInt = 24 ∨ t.toInt = 25 ∨ t.toInt = 26 ∨ t.toInt = 27 ∨ t.toInt = 28 ∨ t.toInt = 29 ∨ t.toInt = 30 ∨ t.toInt = 31 := by omega
  rcases cs with hk | hk | hk | hk | hk | hk | hk | hk | hk | hk | hk | hk | hk | hk | hk | hk | hk | hk | hk | hk | hk | hk | hk | hk | hk | hk | hk | hk | hk | hk | hk | hk
  · exact x_tableIn (pc := 32) (tgt := 176) dL_law_32 (by omega) (by omega) (by rw [hk]; rfl) (by decide) (law_append hG I h1 h2 h3 h)
  · exact x_tableIn (pc := 32) (tgt := 199) dL_law_32 (by omega) (by omega) (by rw [hk]; rfl) (by decide) (law_clearText hG I h1 h2 h3 h)
  · exact x_tableIn (pc := 32) (tgt := 212) dL_law_32 (by omega) (by omega) (by rw [hk]; rfl) (by decide) (law_errorPosition hG I h1 h2 h3 h)
  · exact x_tableIn (pc := 32) (tgt := 225) dL_law_32 (by omega) (by omega) (by rw [hk]; rfl) (by decide) (law_load hG I h1 h2 h3 h)
  · exact x_tableIn (pc := 32) (tgt := 238) dL_law_32 (by omega) (by omega) (by rw [hk]; rfl) (by decide) (law_vertexWeight hG I h1 h2 h3 h)
  · exact x_tableIn (pc := 32) (tgt := 261) dL_law_32 (by omega) (by omega) (by rw [hk]; rfl) (by decide) (law_edgeWeight hG I h1 h2 h3 h)
  · exact x_tableIn (pc := 32) (tgt := 294) dL_law_32 (by omega) (by omega) (by rw [hk]; rfl) (by decide) (law_treeOf hG I h1 h2 h3 h)
  · exact x_tableIn (pc := 32) (tgt := 317) dL_law_32 (by omega) (by omega) (by rw [hk]; rfl) (by decide) (law_link hG I h1 h2 h3 h)
  · exact x_tableIn (pc := 32) (tgt := 360) dL_law_32 (by omega) (by omega) (by rw [hk]; rfl) (by decide) (law_cut hG I h1 h2 h3 h)
  · exact x_tableIn (pc := 32) (tgt := 393) dL_law_32 (by omega) (by omega) (by rw [hk]; rfl) (by decide) (law_setEdgeWeight hG I h1 h2 h3 h)
  · exact x_tableIn (pc := 32) (tgt := 436) dL_law_32 (by omega) (by omega) (by rw [hk]; rfl) (by decide) (law_setVertexWeight hG I h1 h2 h3 h)
  · exact x_tableIn (pc := 32) (tgt := 469) dL_law_32 (by omega) (by omega) (by rw [hk]; rfl) (by decide) (law_undo hG I h1 h2 h3 h)
  · exact x_tableIn (pc := 32) (tgt := 482) dL_law_32 (by omega) (by omega) (by rw [hk]; rfl) (by decide) (law_distance hG I h1 h2 h3 h)
  · exact x_tableIn (pc := 32) (tgt := 515) dL_law_32 (by omega) (by omega) (by rw [hk]; rfl) (by decide) (law_pathVertex hG I h1 h2 h3 h)
  · exact x_tableIn (pc := 32) (tgt := 558) dL_law_32 (by omega) (by omega) (by rw [hk]; rfl) (by decide) (law_eccentricity hG I h1 h2 h3 h)
  · exact x_tableIn (pc := 32) (tgt := 581) dL_law_32 (by omega) (by omega) (by rw [hk]; rfl) (by decide) (law_diameter hG I h1 h2 h3 h)
  · exact x_tableIn (pc := 32) (tgt := 604) dL_law_32 (by omega) (by omega) (by rw [hk]; rfl) (by decide) (law_diameterEnd hG I h1 h2 h3 h)
  · exact x_tableIn (pc := 32) (tgt := 637) dL_law_32 (by omega) (by omega) (by rw [hk]; rfl) (by decide) (law_centre hG I h1 h2 h3 h)
  · exact x_tableIn (pc := 32) (tgt := 660) dL_law_32 (by omega) (by omega) (by rw [hk]; rfl) (by decide) (law_median hG I h1 h2 h3 h)
  · exact x_tableIn (pc := 32) (tgt := 683) dL_law_32 (by omega) (by omega) (by rw [hk]; rfl) (by decide) (law_cost hG I h1 h2 h3 h)
  · exact x_tableIn (pc := 32) (tgt := 706) dL_law_32 (by omega) (by omega) (by rw [hk]; rfl) (by decide) (law_meeting hG I h1 h2 h3 h)
  · exact x_tableIn (pc := 32) (tgt := 749) dL_law_32 (by omega) (by omega) (by rw [hk]; rfl) (by decide) (law_rounds hG I h1 h2 h3 h)
  · exact x_tableIn (pc := 32) (tgt := 772) dL_law_32 (by omega) (by omega) (by rw [hk]; rfl) (by decide) (law_removalRound hG I h1 h2 h3 h)
  · exact x_tableIn (pc := 32) (tgt := 795) dL_law_32 (by omega) (by omega) (by rw [hk]; rfl) (by decide) (law_survivor hG I h1 h2 h3 h)
  · exact x_tableIn (pc := 32) (tgt := 818) dL_law_32 (by omega) (by omega) (by rw [hk]; rfl) (by decide) (law_balancedCut hG I h1 h2 h3 h)
  · exact x_tableIn (pc := 32) (tgt := 841) dL_law_32 (by omega) (by omega) (by rw [hk]; rfl) (by decide) (law_expectedReach hG I h1 h2 h3 h)
  · exact x_tableIn (pc := 32) (tgt := 875) dL_law_32 (by omega) (by omega) (by rw [hk]; rfl) (by decide) (law_observe hG I h1 h2 h3 h)
  · exact x_tableIn (pc := 32) (tgt := 918) dL_law_32 (by omega) (by omega) (by rw [hk]; rfl) (by decide) (law_possibleWeights hG I h1 h2 h3 h)
  · exact x_tableIn (pc := 32) (tgt := 951) dL_law_32 (by omega) (by omega) (by rw [hk]; rfl) (by decide) (law_runScript hG I h1 h2 h3 h)
  · exact x_tableIn (pc := 32) (tgt := 1014) dL_law_32 (by omega) (by omega) (by rw [hk]; rfl) (by decide) (law_randomChanges hG I h1 h2 h3 h)
  · exact x_tableIn (pc := 32) (tgt := 1077) dL_law_32 (by omega) (by omega) (by rw [hk]; rfl) (by decide) (law_save hG I h1 h2 h3 h)
  · exact x_tableIn (pc := 32) (tgt := 1100) dL_law_32 (by omega) (by omega) (by rw [hk]; rfl) (by decide) (law_restore hG I h1 h2 h3 h)
set_option maxRecDepth 100000 in
set_option maxHeartbeats 4000000 in
theorem law_loop (hL : L ≤ 2048) (hG : Mn G) : ∀ (d i : Nat) (mem : Mem), L + 4 ≤ i + d → i ≤ L + 4 → Inv mem → XLw l nm b L xs G mem 18 (lvL b i G) [] := by
  intro d
  induction d with
  | zero =>
    intro i mem hd hi I
    exact law_end hL hG (by omega) hi
  | succ d ih =>
    intro i mem hd hi I
    by_cases q : i + 4 ≤ L
    · refine law_step hL hG q I (fun mem' I' => ih (i + 4) mem' (by omega) (by omega) I')
    · exact law_end hL hG (by omega) hi
end LAW
