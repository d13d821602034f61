/-! constructor: WeightedForestModel -/
/-- the new memory while the weights of the start are written -/
def Nw (m0 : Mem) (k : Nat) (m : Mem) : Prop := (∀ i, i ≠ 327 ∧ i ≠ 329 → m i = m0 i) ∧ (∀ j, m 327 j = if j = 3 then 12 else 0) ∧ ∀ v, m 329 v = if v < k then 1 else 0
set_option maxRecDepth 100000 in
set_option maxHeartbeats 4000000 in
theorem now_X7 {l : Launch} {G0 ge : Gx} {m0 : Mem} {cells slots : Nat} {P : Option Value → Gx → Mem → Prop} {a0 : Nat} (hM : Mn ge) (ha : gA ge 327 = a0) (kend : ∀ mk, Nw m0 12 mk → Xm l M_X7_init G0 15 3280 P ge cells slots mk 156 [(1, .int (nI 12)), (0, .ref a0)] []) : ∀ (d k : Nat), k + d = 12 → ∀ (mk : Mem), Nw m0 k mk → Xm l M_X7_init G0 15 3280 P ge cells slots mk 137 [(1, .int (nI k)), (0, .ref a0)] [] := by
  intro d
  induction d with
  | zero =>
    intro k hk mk hw
    have e : k = 12 := by omega
    subst e
    refine x_iload_n (pc := 137) dX7_init_137 0 rfl rfl ?_
    refine x_bipush (pc := 138) (v := 12) dX7_init_138 (by decide) ?_
    exact x_icmp_ge (pc := 140) (tgt := 156) dX7_init_140 (by decide) (fun _ => kend mk hw) (fun z => absurd (by decide) z)
  | succ d ih =>
    intro k hk mk hw
    refine x_iload_n (pc := 137) dX7_init_137 0 rfl rfl ?_
    refine x_bipush (pc := 138) (v := 12) dX7_init_138 (by decide) ?_
    refine x_icmp_ge (pc := 140) (tgt := 156) dX7_init_140 (by decide) (fun z => absurd ((i_nle (a := 12) (by decide) (by omega)).mp z) (by omega)) (fun _ => ?_)
    refine x_aload_n (pc := 143) dX7_init_143 1 rfl rfl ?_
    refine x_eq (st2 := [.ref (gA ge 327)]) rfl rfl (by rw [ha]) ?_
    refine x_get (pc := 144) 327 5 dX7_init_144 (mK hM (by decide)) (mc_327 hM _) rfl inX7 (by decide) tb_716 rfl rfl ?_
    refine x_iload_n (pc := 147) dX7_init_147 0 rfl rfl ?_
    refine x_iconst (pc := 148) (v := 1) dX7_init_148 (by decide) ?_
    refine x_iast (pc := 149) 329 dX7_init_149 (Ra_K (r_329 hM)) (Ra_c (r_329 hM)) (i_in (by omega) (by decide)) ?_
    rw [i_cl (by omega)]
    refine x_iinc (pc := 150) (k := 0) (v := nI (k + 1)) (lv' := [(1, .int (nI (k + 1))), (0, .ref a0)]) dX7_init_150 rfl (nI_1 k) (by decide) rfl ?_
    refine x_goto (pc := 153) (tgt := 137) dX7_init_153 (by decide) ?_
    refine ih (k + 1) (by omega) _ ⟨fun i hi => ?_, fun j => ?_, fun v => ?_⟩
    · exact (if_neg hi.2).trans (hw.1 i hi)
    · exact (congrFun (if_neg (by decide)) j).trans (hw.2.1 j)
    · show (if (329 : Nat) = 329 then upd (mk 329) k 1 else mk 329) v = _
      rw [if_pos rfl]
      unfold upd
      by_cases c : v = k
      · rw [if_pos c, if_pos (by omega)]
      · rw [if_neg c, hw.2.2 v]
        by_cases c2 : v < k
        · rw [if_pos c2, if_pos (by omega)]
        · rw [if_neg c2, if_neg (by omega)]
