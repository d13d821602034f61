/-! THE LAW: its calls, 1 -/
section LAW
variable {l : Launch} {nm : String} {b L i : Nat} {xs : Nat → Int32} {G : Gx} {mem : Mem}
set_option maxRecDepth 100000 in
set_option maxHeartbeats 4000000 in
theorem law_append (hG : Mn G) (I : Inv mem) (h1 : vp_in (nI i + 1) L) (h2 : vp_in (nI i + 2) L) (h3 : vp_in (nI i + 3) L) (h : ∀ mem' : Mem, Inv mem' → XLw l nm b L xs G mem' 1123 (lvL b i G) []) : XLw l nm b L xs G mem 176 (lvL b i G) [] := by
  refine x_aload_n (pc := 176) dL_law_176 2 rfl rfl ?_
  refine x_aload_n (pc := 177) dL_law_177 3 rfl rfl ?_
  refine x_iload_n (pc := 178) dL_law_178 0 rfl rfl ?_
  refine x_iconst (pc := 179) (v := 1) dL_law_179 (by decide) ?_
  refine x_iadd (pc := 180) dL_law_180 ?_
  refine x_sld (pc := 181) h1 dL_law_181 ?_
  refine x_callVI (pc := 182) 0 (op_append hG I _) ok_X6_append dL_law_182 tb_246 (rm_law nm ⟨⟨rfl, rfl⟩, ⟨Nat.le_of_ble_eq_true rfl, Nat.le_of_ble_eq_true rfl⟩, Nat.le_of_ble_eq_true rfl, Nat.le_of_ble_eq_true rfl⟩) (mK hG (by decide)) (mc_0 hG _) rfl (As := [.int (xs (nI i + 1).toNatClampNeg)]) rfl rfl (Nat.le_of_ble_eq_true rfl) (fun r m hq => ?_)
  refine x_aload_n (pc := 185) dL_law_185 1 rfl rfl ?_
  refine x_aload_n (pc := 186) dL_law_186 3 rfl rfl ?_
  refine x_iload_n (pc := 187) dL_law_187 0 rfl rfl ?_
  refine x_iconst (pc := 188) (v := 1) dL_law_188 (by decide) ?_
  refine x_iadd (pc := 189) dL_law_189 ?_
  refine x_sld (pc := 190) h1 dL_law_190 ?_
  refine x_callVI (pc := 191) 327 hq ok_X7_append dL_law_191 tb_784 (rm_law nm ⟨⟨rfl, rfl⟩, ⟨Nat.le_of_ble_eq_true rfl, Nat.le_of_ble_eq_true rfl⟩, Nat.le_of_ble_eq_true rfl, Nat.le_of_ble_eq_true rfl⟩) (mK hG (by decide)) (mc_327 hG _) rfl (As := [.int (xs (nI i + 1).toNatClampNeg)]) rfl rfl (Nat.le_of_ble_eq_true rfl) (fun r' m' hq2 => ?_)
  obtain ⟨rfl, I2⟩ := hq2
  refine x_icmp_eq (pc := 194) (tgt := 1123) dL_law_194 (by decide) (fun _ => h _ I2) (fun z => absurd rfl z)
set_option maxRecDepth 100000 in
set_option maxHeartbeats 4000000 in
theorem law_clearText (hG : Mn G) (I : Inv mem) (h1 : vp_in (nI i + 1) L) (h2 : vp_in (nI i + 2) L) (h3 : vp_in (nI i + 3) L) (h : ∀ mem' : Mem, Inv mem' → XLw l nm b L xs G mem' 1123 (lvL b i G) []) : XLw l nm b L xs G mem 199 (lvL b i G) [] := by
  refine x_aload_n (pc := 199) dL_law_199 2 rfl rfl ?_
  refine x_callVI (pc := 200) 0 (op_clearText hG I) ok_X6_clearText dL_law_200 tb_258 (rm_law nm ⟨⟨rfl, rfl⟩, ⟨Nat.le_of_ble_eq_true rfl, Nat.le_of_ble_eq_true rfl⟩, Nat.le_of_ble_eq_true rfl, Nat.le_of_ble_eq_true rfl⟩) (mK hG (by decide)) (mc_0 hG _) rfl (As := []) rfl rfl (Nat.le_of_ble_eq_true rfl) (fun r m hq => ?_)
  refine x_aload_n (pc := 203) dL_law_203 1 rfl rfl ?_
  refine x_callVI (pc := 204) 327 hq ok_X7_clearText dL_law_204 tb_792 (rm_law nm ⟨⟨rfl, rfl⟩, ⟨Nat.le_of_ble_eq_true rfl, Nat.le_of_ble_eq_true rfl⟩, Nat.le_of_ble_eq_true rfl, Nat.le_of_ble_eq_true rfl⟩) (mK hG (by decide)) (mc_327 hG _) rfl (As := []) rfl rfl (Nat.le_of_ble_eq_true rfl) (fun r' m' hq2 => ?_)
  obtain ⟨rfl, I2⟩ := hq2
  refine x_icmp_eq (pc := 207) (tgt := 1123) dL_law_207 (by decide) (fun _ => h _ I2) (fun z => absurd rfl z)
set_option maxRecDepth 100000 in
set_option maxHeartbeats 4000000 in
theorem law_errorPosition (hG : Mn G) (I : Inv mem) (h1 : vp_in (nI i + 1) L) (h2 : vp_in (nI i + 2) L) (h3 : vp_in (nI i + 3) L) (h : ∀ mem' : Mem, Inv mem' → XLw l nm b L xs G mem' 1123 (lvL b i G) []) : XLw l nm b L xs G mem 212 (lvL b i G) [] := by
  refine x_aload_n (pc := 212) dL_law_212 2 rfl rfl ?_
  refine x_callVI (pc := 213) 0 (op_errorPosition hG I) ok_X6_errorPosition dL_law_213 tb_266 (rm_law nm ⟨⟨rfl, rfl⟩, ⟨Nat.le_of_ble_eq_true rfl, Nat.le_of_ble_eq_true rfl⟩, Nat.le_of_ble_eq_true rfl, Nat.le_of_ble_eq_true rfl⟩) (mK hG (by decide)) (mc_0 hG _) rfl (As := []) rfl rfl (Nat.le_of_ble_eq_true rfl) (fun r m hq => ?_)
  refine x_aload_n (pc := 216) dL_law_216 1 rfl rfl ?_
  refine x_callVI (pc := 217) 327 hq ok_X7_errorPosition dL_law_217 tb_796 (rm_law nm ⟨⟨rfl, rfl⟩, ⟨Nat.le_of_ble_eq_true rfl, Nat.le_of_ble_eq_true rfl⟩, Nat.le_of_ble_eq_true rfl, Nat.le_of_ble_eq_true rfl⟩) (mK hG (by decide)) (mc_327 hG _) rfl (As := []) rfl rfl (Nat.le_of_ble_eq_true rfl) (fun r' m' hq2 => ?_)
  obtain ⟨rfl, I2⟩ := hq2
  refine x_icmp_eq (pc := 220) (tgt := 1123) dL_law_220 (by decide) (fun _ => h _ I2) (fun z => absurd rfl z)
set_option maxRecDepth 100000 in
set_option maxHeartbeats 4000000 in
theorem law_load (hG : Mn G) (I : Inv mem) (h1 : vp_in (nI i + 1) L) (h2 : vp_in (nI i + 2) L) (h3 : vp_in (nI i + 3) L) (h : ∀ mem' : Mem, Inv mem' → XLw l nm b L xs G mem' 1123 (lvL b i G) []) : XLw l nm b L xs G mem 225 (lvL b i G) [] := by
  refine x_aload_n (pc := 225) dL_law_225 2 rfl rfl ?_
  refine x_callVI (pc := 226) 0 (op_load hG I) ok_X6_load dL_law_226 tb_319 (rm_law nm ⟨⟨rfl, rfl⟩, ⟨Nat.le_of_ble_eq_true rfl, Nat.le_of_ble_eq_true rfl⟩, Nat.le_of_ble_eq_true rfl, Nat.le_of_ble_eq_true rfl⟩) (mK hG (by decide)) (mc_0 hG _) rfl (As := []) rfl rfl (Nat.le_of_ble_eq_true rfl) (fun r m hq => ?_)
  refine x_aload_n (pc := 229) dL_law_229 1 rfl rfl ?_
  refine x_callVI (pc := 230) 327 hq ok_X7_load dL_law_230 tb_834 (rm_law nm ⟨⟨rfl, rfl⟩, ⟨Nat.le_of_ble_eq_true rfl, Nat.le_of_ble_eq_true rfl⟩, Nat.le_of_ble_eq_true rfl, Nat.le_of_ble_eq_true rfl⟩) (mK hG (by decide)) (mc_327 hG _) rfl (As := []) rfl rfl (Nat.le_of_ble_eq_true rfl) (fun r' m' hq2 => ?_)
  obtain ⟨rfl, I2⟩ := hq2
  refine x_icmp_eq (pc := 233) (tgt := 1123) dL_law_233 (by decide) (fun _ => h _ I2) (fun z => absurd rfl z)
end LAW
