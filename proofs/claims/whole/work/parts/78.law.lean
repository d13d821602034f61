/-! THE LAW: its loop -/
abbrev M_law (nm : String) : MTy := (⟨RL, nm, "([I)Z"⟩, code, 4, ret, room_1)
abbrev AL : State → Nat → Prop := fun s q => s.heap.size ≤ q
abbrev ZL : List Frame → Array Value → State → State → Prop := fun below args s => lw_Z below args s
abbrev EL (b L : Nat) (xs : Nat → Int32) : Array Value → State → Prop := fun args s => args = #[.ref b] ∧ va_X b L xs s s.heap ∧ b < s.heap.size
abbrev XLw (l : Launch) (nm : String) (b L : Nat) (xs : Nat → Int32) (G : Gx) (mem : Mem) (pc : Nat) (lv : Lv) (st : List Value) : Prop := Xg l (M_law nm) AL ZL (EL b L xs) G 600000 7302250 mem pc lv st
theorem x_slen {l : Launch} {nm : String} {b L : Nat} {xs : Nat → Int32} {G : Gx} {cells slots : Nat} {mem : Mem} {pc : Nat} {lv : Lv} {st : List Value} (hdg : decode code pc = .ok (.arraylength, 1)) (kk : Xg l (M_law nm) AL ZL (EL b L xs) G cells slots mem (pc + 1) lv (.int (Int32.ofNat L) :: st)) : Xg l (M_law nm) AL ZL (EL b L xs) G cells slots mem pc lv (.ref b :: st) := by
  intro p e s m args below meth c H locs ls C hP hD hS hL
  obtain ⟨e1, e2, e3⟩ := C.2.2.2.2.2.2.2.2.2.2
  exact va_slen C.1 C.2.1 e2 e3 (Nat.not_le.mpr e3) hS hdg (kk p e s m args below meth c H locs _ C hP hD hS hL)
theorem x_sld {l : Launch} {nm : String} {b L : Nat} {xs : Nat → Int32} {G : Gx} {cells slots : Nat} {mem : Mem} {pc : Nat} {lv : Lv} {st : List Value} {i : Int32} (hin : vp_in i L) (hdg : decode code pc = .ok (.iaload, 1)) (kk : Xg l (M_law nm) AL ZL (EL b L xs) G cells slots mem (pc + 1) lv (.int (xs i.toNatClampNeg) :: st)) : Xg l (M_law nm) AL ZL (EL b L xs) G cells slots mem pc lv (.int i :: .ref b :: st) := by
  intro p e s m args below meth c H locs ls C hP hD hS hL
  obtain ⟨e1, e2, e3⟩ := C.2.2.2.2.2.2.2.2.2.2
  exact va_sld C.1 C.2.1 e2 e3 (Nat.not_le.mpr e3) hS hin hdg (kk p e s m args below meth c H locs _ C hP hD hS hL)
theorem x_lend {l : Launch} {nm : String} {b L : Nat} {xs : Nat → Int32} {G : Gx} {mem : Mem} {pc : Nat} {lv : Lv} (hdg : decode code pc = .ok (.ireturn, 1)) : XLw l nm b L xs G mem pc lv [.int 1] := by
  intro p e s m args below meth c H locs ls C hP hD hS hL
  obtain ⟨e1, e2, e3⟩ := C.2.2.2.2.2.2.2.2.2.2
  subst e1
  exact va_forget hS.2.2 (lw_ret C.1 C.2.1 C.2.2.2.2.2.1 C.2.2.2.2.2.2.1 hdg)
theorem and31 (x : Int32) : 0 ≤ (x &&& 31).toInt ∧ (x &&& 31).toInt ≤ 31 := by
  have h : (x &&& 31).toBitVec.toNat ≤ 31 := by
    rw [Int32.toBitVec_and, BitVec.toNat_and]
    exact Nat.and_le_right
  have e : (x &&& 31).toInt = ((x &&& 31).toBitVec.toNat : Int) := by
    show (x &&& 31).toBitVec.toInt = _
    rw [BitVec.toInt_eq_toNat_of_lt (by omega)]
  rw [e]
  omega
section LAW
variable {l : Launch} {nm : String} {b L i : Nat} {xs : Nat → Int32} {G : Gx} {mem : Mem}
/-- the law's locals -/
abbrev lvL (b i : Nat) (G : Gx) : Lv := [(3, .int (nI i)), (2, .ref (gA G 327)), (1, .ref (gA G 0)), (0, .ref b)]
theorem lg_self (x : Int64) : lg_cmp x x = 0 := by
  unfold lg_cmp
  have h : ¬ x > x := fun z => by
    have z : x < x := z
    rw [Int64.lt_iff_toInt_lt] at z
    omega
  rw [if_neg h, if_pos rfl]
set_option maxRecDepth 100000 in
set_option maxHeartbeats 4000000 in
theorem law_append (hG : Mn G) (I : Inv mem) (h1 : vp_in (nI i + 1) L) (h2 : vp_in (nI i + 2) L) (h3 : vp_in (nI i + 3) L) (h : ∀ mem' : Mem, Inv mem' → XLw l nm b L xs G mem' 1123 (lvL b i G) []) : XLw l nm b L xs G mem 176 (lvL b i G) [] := by
  refine x_aload_n (pc := 176) dL_law_176 2 rfl rfl ?_
  refine x_aload_n (pc := 177) dL_law_177 3 rfl rfl ?_
  refine x_iload_n (pc := 178) dL_law_178 0 rfl rfl ?_
  refine x_iconst (pc := 179) (v := 1) dL_law_179 (by decide) ?_
  refine x_iadd (pc := 180) dL_law_180 ?_
  refine x_sld (pc := 181) h1 dL_law_181 ?_
  refine x_callVI (pc := 182) 0 (op_append hG I _) ok_X6_append dL_law_182 tb_246 ⟨⟨rfl, rfl⟩, ⟨Nat.le_of_ble_eq_true rfl, Nat.le_of_ble_eq_true rfl⟩, Nat.le_of_ble_eq_true rfl, Nat.le_of_ble_eq_true rfl⟩ (mK hG (by decide)) (mc_0 hG _) rfl (As := [.int (xs (nI i + 1).toNatClampNeg)]) rfl rfl (Nat.le_of_ble_eq_true rfl) (fun r m hq => ?_)
  refine x_aload_n (pc := 185) dL_law_185 1 rfl rfl ?_
  refine x_aload_n (pc := 186) dL_law_186 3 rfl rfl ?_
  refine x_iload_n (pc := 187) dL_law_187 0 rfl rfl ?_
  refine x_iconst (pc := 188) (v := 1) dL_law_188 (by decide) ?_
  refine x_iadd (pc := 189) dL_law_189 ?_
  refine x_sld (pc := 190) h1 dL_law_190 ?_
  refine x_callVI (pc := 191) 327 hq ok_X7_append dL_law_191 tb_784 ⟨⟨rfl, rfl⟩, ⟨Nat.le_of_ble_eq_true rfl, Nat.le_of_ble_eq_true rfl⟩, Nat.le_of_ble_eq_true rfl, Nat.le_of_ble_eq_true rfl⟩ (mK hG (by decide)) (mc_327 hG _) rfl (As := [.int (xs (nI i + 1).toNatClampNeg)]) rfl rfl (Nat.le_of_ble_eq_true rfl) (fun r' m' hq2 => ?_)
  obtain ⟨rfl, I2⟩ := hq2
  refine x_icmp_eq (pc := 194) (tgt := 1123) dL_law_194 (by decide) (fun _ => h _ I2) (fun z => absurd rfl z)
set_option maxRecDepth 100000 in
set_option maxHeartbeats 4000000 in
theorem law_clearText (hG : Mn G) (I : Inv mem) (h1 : vp_in (nI i + 1) L) (h2 : vp_in (nI i + 2) L) (h3 : vp_in (nI i + 3) L) (h : ∀ mem' : Mem, Inv mem' → XLw l nm b L xs G mem' 1123 (lvL b i G) []) : XLw l nm b L xs G mem 199 (lvL b i G) [] := by
  refine x_aload_n (pc := 199) dL_law_199 2 rfl rfl ?_
  refine x_callVI (pc := 200) 0 (op_clearText hG I) ok_X6_clearText dL_law_200 tb_258 ⟨⟨rfl, rfl⟩, ⟨Nat.le_of_ble_eq_true rfl, Nat.le_of_ble_eq_true rfl⟩, Nat.le_of_ble_eq_true rfl, Nat.le_of_ble_eq_true rfl⟩ (mK hG (by decide)) (mc_0 hG _) rfl (As := []) rfl rfl (Nat.le_of_ble_eq_true rfl) (fun r m hq => ?_)
  refine x_aload_n (pc := 203) dL_law_203 1 rfl rfl ?_
  refine x_callVI (pc := 204) 327 hq ok_X7_clearText dL_law_204 tb_792 ⟨⟨rfl, rfl⟩, ⟨Nat.le_of_ble_eq_true rfl, Nat.le_of_ble_eq_true rfl⟩, Nat.le_of_ble_eq_true rfl, Nat.le_of_ble_eq_true rfl⟩ (mK hG (by decide)) (mc_327 hG _) rfl (As := []) rfl rfl (Nat.le_of_ble_eq_true rfl) (fun r' m' hq2 => ?_)
  obtain ⟨rfl, I2⟩ := hq2
  refine x_icmp_eq (pc := 207) (tgt := 1123) dL_law_207 (by decide) (fun _ => h _ I2) (fun z => absurd rfl z)
set_option maxRecDepth 100000 in
set_option maxHeartbeats 4000000 in
theorem law_errorPosition (hG : Mn G) (I : Inv mem) (h1 : vp_in (nI i + 1) L) (h2 : vp_in (nI i + 2) L) (h3 : vp_in (nI i + 3) L) (h : ∀ mem' : Mem, Inv mem' → XLw l nm b L xs G mem' 1123 (lvL b i G) []) : XLw l nm b L xs G mem 212 (lvL b i G) [] := by
  refine x_aload_n (pc := 212) dL_law_212 2 rfl rfl ?_
  refine x_callVI (pc := 213) 0 (op_errorPosition hG I) ok_X6_errorPosition dL_law_213 tb_266 ⟨⟨rfl, rfl⟩, ⟨Nat.le_of_ble_eq_true rfl, Nat.le_of_ble_eq_true rfl⟩, Nat.le_of_ble_eq_true rfl, Nat.le_of_ble_eq_true rfl⟩ (mK hG (by decide)) (mc_0 hG _) rfl (As := []) rfl rfl (Nat.le_of_ble_eq_true rfl) (fun r m hq => ?_)
  refine x_aload_n (pc := 216) dL_law_216 1 rfl rfl ?_
  refine x_callVI (pc := 217) 327 hq ok_X7_errorPosition dL_law_217 tb_796 ⟨⟨rfl, rfl⟩, ⟨Nat.le_of_ble_eq_true rfl, Nat.le_of_ble_eq_true rfl⟩, Nat.le_of_ble_eq_true rfl, Nat.le_of_ble_eq_true rfl⟩ (mK hG (by decide)) (mc_327 hG _) rfl (As := []) rfl rfl (Nat.le_of_ble_eq_true rfl) (fun r' m' hq2 => ?_)
  obtain ⟨rfl, I2⟩ := hq2
  refine x_icmp_eq (pc := 220) (tgt := 1123) dL_law_220 (by decide) (fun _ => h _ I2) (fun z => absurd rfl z)
set_option maxRecDepth 100000 in
set_option maxHeartbeats 4000000 in
theorem law_load (hG : Mn G) (I : Inv mem) (h1 : vp_in (nI i + 1) L) (h2 : vp_in (nI i + 2) L) (h3 : vp_in (nI i + 3) L) (h : ∀ mem' : Mem, Inv mem' → XLw l nm b L xs G mem' 1123 (lvL b i G) []) : XLw l nm b L xs G mem 225 (lvL b i G) [] := by
  refine x_aload_n (pc := 225) dL_law_225 2 rfl rfl ?_
  refine x_callVI (pc := 226) 0 (op_load hG I) ok_X6_load dL_law_226 tb_319 ⟨⟨rfl, rfl⟩, ⟨Nat.le_of_ble_eq_true rfl, Nat.le_of_ble_eq_true rfl⟩, Nat.le_of_ble_eq_true rfl, Nat.le_of_ble_eq_true rfl⟩ (mK hG (by decide)) (mc_0 hG _) rfl (As := []) rfl rfl (Nat.le_of_ble_eq_true rfl) (fun r m hq => ?_)
  refine x_aload_n (pc := 229) dL_law_229 1 rfl rfl ?_
  refine x_callVI (pc := 230) 327 hq ok_X7_load dL_law_230 tb_834 ⟨⟨rfl, rfl⟩, ⟨Nat.le_of_ble_eq_true rfl, Nat.le_of_ble_eq_true rfl⟩, Nat.le_of_ble_eq_true rfl, Nat.le_of_ble_eq_true rfl⟩ (mK hG (by decide)) (mc_327 hG _) rfl (As := []) rfl rfl (Nat.le_of_ble_eq_true rfl) (fun r' m' hq2 => ?_)
  obtain ⟨rfl, I2⟩ := hq2
  refine x_icmp_eq (pc := 233) (tgt := 1123) dL_law_233 (by decide) (fun _ => h _ I2) (fun z => absurd rfl z)
set_option maxRecDepth 100000 in
set_option maxHeartbeats 4000000 in
theorem law_vertexWeight (hG : Mn G) (I : Inv mem) (h1 : vp_in (nI i + 1) L) (h2 : vp_in (nI i + 2) L) (h3 : vp_in (nI i + 3) L) (h : ∀ mem' : Mem, Inv mem' → XLw l nm b L xs G mem' 1123 (lvL b i G) []) : XLw l nm b L xs G mem 238 (lvL b i G) [] := by
  refine x_aload_n (pc := 238) dL_law_238 2 rfl rfl ?_
  refine x_aload_n (pc := 239) dL_law_239 3 rfl rfl ?_
  refine x_iload_n (pc := 240) dL_law_240 0 rfl rfl ?_
  refine x_iconst (pc := 241) (v := 1) dL_law_241 (by decide) ?_
  refine x_iadd (pc := 242) dL_law_242 ?_
  refine x_sld (pc := 243) h1 dL_law_243 ?_
  refine x_callVI (pc := 244) 0 (op_vertexWeight hG I _) ok_X6_vertexWeight dL_law_244 tb_350 ⟨⟨rfl, rfl⟩, ⟨Nat.le_of_ble_eq_true rfl, Nat.le_of_ble_eq_true rfl⟩, Nat.le_of_ble_eq_true rfl, Nat.le_of_ble_eq_true rfl⟩ (mK hG (by decide)) (mc_0 hG _) rfl (As := [.int (xs (nI i + 1).toNatClampNeg)]) rfl rfl (Nat.le_of_ble_eq_true rfl) (fun r m hq => ?_)
  refine x_aload_n (pc := 247) dL_law_247 1 rfl rfl ?_
  refine x_aload_n (pc := 248) dL_law_248 3 rfl rfl ?_
  refine x_iload_n (pc := 249) dL_law_249 0 rfl rfl ?_
  refine x_iconst (pc := 250) (v := 1) dL_law_250 (by decide) ?_
  refine x_iadd (pc := 251) dL_law_251 ?_
  refine x_sld (pc := 252) h1 dL_law_252 ?_
  refine x_callVI (pc := 253) 327 hq ok_X7_vertexWeight dL_law_253 tb_844 ⟨⟨rfl, rfl⟩, ⟨Nat.le_of_ble_eq_true rfl, Nat.le_of_ble_eq_true rfl⟩, Nat.le_of_ble_eq_true rfl, Nat.le_of_ble_eq_true rfl⟩ (mK hG (by decide)) (mc_327 hG _) rfl (As := [.int (xs (nI i + 1).toNatClampNeg)]) rfl rfl (Nat.le_of_ble_eq_true rfl) (fun r' m' hq2 => ?_)
  obtain ⟨rfl, I2⟩ := hq2
  refine x_icmp_eq (pc := 256) (tgt := 1123) dL_law_256 (by decide) (fun _ => h _ I2) (fun z => absurd rfl z)
set_option maxRecDepth 100000 in
set_option maxHeartbeats 4000000 in
theorem law_edgeWeight (hG : Mn G) (I : Inv mem) (h1 : vp_in (nI i + 1) L) (h2 : vp_in (nI i + 2) L) (h3 : vp_in (nI i + 3) L) (h : ∀ mem' : Mem, Inv mem' → XLw l nm b L xs G mem' 1123 (lvL b i G) []) : XLw l nm b L xs G mem 261 (lvL b i G) [] := by
  refine x_aload_n (pc := 261) dL_law_261 2 rfl rfl ?_
  refine x_aload_n (pc := 262) dL_law_262 3 rfl rfl ?_
  refine x_iload_n (pc := 263) dL_law_263 0 rfl rfl ?_
  refine x_iconst (pc := 264) (v := 1) dL_law_264 (by decide) ?_
  refine x_iadd (pc := 265) dL_law_265 ?_
  refine x_sld (pc := 266) h1 dL_law_266 ?_
  refine x_aload_n (pc := 267) dL_law_267 3 rfl rfl ?_
  refine x_iload_n (pc := 268) dL_law_268 0 rfl rfl ?_
  refine x_iconst (pc := 269) (v := 2) dL_law_269 (by decide) ?_
  refine x_iadd (pc := 270) dL_law_270 ?_
  refine x_sld (pc := 271) h2 dL_law_271 ?_
  refine x_callVI (pc := 272) 0 (op_edgeWeight hG I _ _) ok_X6_edgeWeight dL_law_272 tb_359 ⟨⟨rfl, rfl⟩, ⟨Nat.le_of_ble_eq_true rfl, Nat.le_of_ble_eq_true rfl⟩, Nat.le_of_ble_eq_true rfl, Nat.le_of_ble_eq_true rfl⟩ (mK hG (by decide)) (mc_0 hG _) rfl (As := [.int (xs (nI i + 1).toNatClampNeg), .int (xs (nI i + 2).toNatClampNeg)]) rfl rfl (Nat.le_of_ble_eq_true rfl) (fun r m hq => ?_)
  refine x_aload_n (pc := 275) dL_law_275 1 rfl rfl ?_
  refine x_aload_n (pc := 276) dL_law_276 3 rfl rfl ?_
  refine x_iload_n (pc := 277) dL_law_277 0 rfl rfl ?_
  refine x_iconst (pc := 278) (v := 1) dL_law_278 (by decide) ?_
  refine x_iadd (pc := 279) dL_law_279 ?_
  refine x_sld (pc := 280) h1 dL_law_280 ?_
  refine x_aload_n (pc := 281) dL_law_281 3 rfl rfl ?_
  refine x_iload_n (pc := 282) dL_law_282 0 rfl rfl ?_
  refine x_iconst (pc := 283) (v := 2) dL_law_283 (by decide) ?_
  refine x_iadd (pc := 284) dL_law_284 ?_
  refine x_sld (pc := 285) h2 dL_law_285 ?_
  refine x_callVI (pc := 286) 327 hq ok_X7_edgeWeight dL_law_286 tb_852 ⟨⟨rfl, rfl⟩, ⟨Nat.le_of_ble_eq_true rfl, Nat.le_of_ble_eq_true rfl⟩, Nat.le_of_ble_eq_true rfl, Nat.le_of_ble_eq_true rfl⟩ (mK hG (by decide)) (mc_327 hG _) rfl (As := [.int (xs (nI i + 1).toNatClampNeg), .int (xs (nI i + 2).toNatClampNeg)]) rfl rfl (Nat.le_of_ble_eq_true rfl) (fun r' m' hq2 => ?_)
  obtain ⟨rfl, I2⟩ := hq2
  refine x_icmp_eq (pc := 289) (tgt := 1123) dL_law_289 (by decide) (fun _ => h _ I2) (fun z => absurd rfl z)
set_option maxRecDepth 100000 in
set_option maxHeartbeats 4000000 in
theorem law_treeOf (hG : Mn G) (I : Inv mem) (h1 : vp_in (nI i + 1) L) (h2 : vp_in (nI i + 2) L) (h3 : vp_in (nI i + 3) L) (h : ∀ mem' : Mem, Inv mem' → XLw l nm b L xs G mem' 1123 (lvL b i G) []) : XLw l nm b L xs G mem 294 (lvL b i G) [] := by
  refine x_aload_n (pc := 294) dL_law_294 2 rfl rfl ?_
  refine x_aload_n (pc := 295) dL_law_295 3 rfl rfl ?_
  refine x_iload_n (pc := 296) dL_law_296 0 rfl rfl ?_
  refine x_iconst (pc := 297) (v := 1) dL_law_297 (by decide) ?_
  refine x_iadd (pc := 298) dL_law_298 ?_
  refine x_sld (pc := 299) h1 dL_law_299 ?_
  refine x_callVI (pc := 300) 0 (op_treeOf hG I _) ok_X6_treeOf dL_law_300 tb_366 ⟨⟨rfl, rfl⟩, ⟨Nat.le_of_ble_eq_true rfl, Nat.le_of_ble_eq_true rfl⟩, Nat.le_of_ble_eq_true rfl, Nat.le_of_ble_eq_true rfl⟩ (mK hG (by decide)) (mc_0 hG _) rfl (As := [.int (xs (nI i + 1).toNatClampNeg)]) rfl rfl (Nat.le_of_ble_eq_true rfl) (fun r m hq => ?_)
  refine x_aload_n (pc := 303) dL_law_303 1 rfl rfl ?_
  refine x_aload_n (pc := 304) dL_law_304 3 rfl rfl ?_
  refine x_iload_n (pc := 305) dL_law_305 0 rfl rfl ?_
  refine x_iconst (pc := 306) (v := 1) dL_law_306 (by decide) ?_
  refine x_iadd (pc := 307) dL_law_307 ?_
  refine x_sld (pc := 308) h1 dL_law_308 ?_
  refine x_callVI (pc := 309) 327 hq ok_X7_treeOf dL_law_309 tb_856 ⟨⟨rfl, rfl⟩, ⟨Nat.le_of_ble_eq_true rfl, Nat.le_of_ble_eq_true rfl⟩, Nat.le_of_ble_eq_true rfl, Nat.le_of_ble_eq_true rfl⟩ (mK hG (by decide)) (mc_327 hG _) rfl (As := [.int (xs (nI i + 1).toNatClampNeg)]) rfl rfl (Nat.le_of_ble_eq_true rfl) (fun r' m' hq2 => ?_)
  obtain ⟨rfl, I2⟩ := hq2
  refine x_icmp_eq (pc := 312) (tgt := 1123) dL_law_312 (by decide) (fun _ => h _ I2) (fun z => absurd rfl z)
set_option maxRecDepth 100000 in
set_option maxHeartbeats 4000000 in
theorem law_link (hG : Mn G) (I : Inv mem) (h1 : vp_in (nI i + 1) L) (h2 : vp_in (nI i + 2) L) (h3 : vp_in (nI i + 3) L) (h : ∀ mem' : Mem, Inv mem' → XLw l nm b L xs G mem' 1123 (lvL b i G) []) : XLw l nm b L xs G mem 317 (lvL b i G) [] := by
  refine x_aload_n (pc := 317) dL_law_317 2 rfl rfl ?_
  refine x_aload_n (pc := 318) dL_law_318 3 rfl rfl ?_
  refine x_iload_n (pc := 319) dL_law_319 0 rfl rfl ?_
  refine x_iconst (pc := 320) (v := 1) dL_law_320 (by decide) ?_
  refine x_iadd (pc := 321) dL_law_321 ?_
  refine x_sld (pc := 322) h1 dL_law_322 ?_
  refine x_aload_n (pc := 323) dL_law_323 3 rfl rfl ?_
  refine x_iload_n (pc := 324) dL_law_324 0 rfl rfl ?_
  refine x_iconst (pc := 325) (v := 2) dL_law_325 (by decide) ?_
  refine x_iadd (pc := 326) dL_law_326 ?_
  refine x_sld (pc := 327) h2 dL_law_327 ?_
  refine x_aload_n (pc := 328) dL_law_328 3 rfl rfl ?_
  refine x_iload_n (pc := 329) dL_law_329 0 rfl rfl ?_
  refine x_iconst (pc := 330) (v := 3) dL_law_330 (by decide) ?_
  refine x_iadd (pc := 331) dL_law_331 ?_
  refine x_sld (pc := 332) h3 dL_law_332 ?_
  refine x_callVI (pc := 333) 0 (op_link hG I _ _ _) ok_X6_link dL_law_333 tb_394 ⟨⟨rfl, rfl⟩, ⟨Nat.le_of_ble_eq_true rfl, Nat.le_of_ble_eq_true rfl⟩, Nat.le_of_ble_eq_true rfl, Nat.le_of_ble_eq_true rfl⟩ (mK hG (by decide)) (mc_0 hG _) rfl (As := [.int (xs (nI i + 1).toNatClampNeg), .int (xs (nI i + 2).toNatClampNeg), .int (xs (nI i + 3).toNatClampNeg)]) rfl rfl (Nat.le_of_ble_eq_true rfl) (fun r m hq => ?_)
  refine x_aload_n (pc := 336) dL_law_336 1 rfl rfl ?_
  refine x_aload_n (pc := 337) dL_law_337 3 rfl rfl ?_
  refine x_iload_n (pc := 338) dL_law_338 0 rfl rfl ?_
  refine x_iconst (pc := 339) (v := 1) dL_law_339 (by decide) ?_
  refine x_iadd (pc := 340) dL_law_340 ?_
  refine x_sld (pc := 341) h1 dL_law_341 ?_
  refine x_aload_n (pc := 342) dL_law_342 3 rfl rfl ?_
  refine x_iload_n (pc := 343) dL_law_343 0 rfl rfl ?_
  refine x_iconst (pc := 344) (v := 2) dL_law_344 (by decide) ?_
  refine x_iadd (pc := 345) dL_law_345 ?_
  refine x_sld (pc := 346) h2 dL_law_346 ?_
  refine x_aload_n (pc := 347) dL_law_347 3 rfl rfl ?_
  refine x_iload_n (pc := 348) dL_law_348 0 rfl rfl ?_
  refine x_iconst (pc := 349) (v := 3) dL_law_349 (by decide) ?_
  refine x_iadd (pc := 350) dL_law_350 ?_
  refine x_sld (pc := 351) h3 dL_law_351 ?_
  refine x_callVI (pc := 352) 327 hq ok_X7_link dL_law_352 tb_860 ⟨⟨rfl, rfl⟩, ⟨Nat.le_of_ble_eq_true rfl, Nat.le_of_ble_eq_true rfl⟩, Nat.le_of_ble_eq_true rfl, Nat.le_of_ble_eq_true rfl⟩ (mK hG (by decide)) (mc_327 hG _) rfl (As := [.int (xs (nI i + 1).toNatClampNeg), .int (xs (nI i + 2).toNatClampNeg), .int (xs (nI i + 3).toNatClampNeg)]) rfl rfl (Nat.le_of_ble_eq_true rfl) (fun r' m' hq2 => ?_)
  obtain ⟨rfl, I2⟩ := hq2
  refine x_icmp_eq (pc := 355) (tgt := 1123) dL_law_355 (by decide) (fun _ => h _ I2) (fun z => absurd rfl z)
set_option maxRecDepth 100000 in
set_option maxHeartbeats 4000000 in
theorem law_cut (hG : Mn G) (I : Inv mem) (h1 : vp_in (nI i + 1) L) (h2 : vp_in (nI i + 2) L) (h3 : vp_in (nI i + 3) L) (h : ∀ mem' : Mem, Inv mem' → XLw l nm b L xs G mem' 1123 (lvL b i G) []) : XLw l nm b L xs G mem 360 (lvL b i G) [] := by
  refine x_aload_n (pc := 360) dL_law_360 2 rfl rfl ?_
  refine x_aload_n (pc := 361) dL_law_361 3 rfl rfl ?_
  refine x_iload_n (pc := 362) dL_law_362 0 rfl rfl ?_
  refine x_iconst (pc := 363) (v := 1) dL_law_363 (by decide) ?_
  refine x_iadd (pc := 364) dL_law_364 ?_
  refine x_sld (pc := 365) h1 dL_law_365 ?_
  refine x_aload_n (pc := 366) dL_law_366 3 rfl rfl ?_
  refine x_iload_n (pc := 367) dL_law_367 0 rfl rfl ?_
  refine x_iconst (pc := 368) (v := 2) dL_law_368 (by decide) ?_
  refine x_iadd (pc := 369) dL_law_369 ?_
  refine x_sld (pc := 370) h2 dL_law_370 ?_
  refine x_callVI (pc := 371) 0 (op_cut hG I _ _) ok_X6_cut dL_law_371 tb_409 ⟨⟨rfl, rfl⟩, ⟨Nat.le_of_ble_eq_true rfl, Nat.le_of_ble_eq_true rfl⟩, Nat.le_of_ble_eq_true rfl, Nat.le_of_ble_eq_true rfl⟩ (mK hG (by decide)) (mc_0 hG _) rfl (As := [.int (xs (nI i + 1).toNatClampNeg), .int (xs (nI i + 2).toNatClampNeg)]) rfl rfl (Nat.le_of_ble_eq_true rfl) (fun r m hq => ?_)
  refine x_aload_n (pc := 374) dL_law_374 1 rfl rfl ?_
  refine x_aload_n (pc := 375) dL_law_375 3 rfl rfl ?_
  refine x_iload_n (pc := 376) dL_law_376 0 rfl rfl ?_
  refine x_iconst (pc := 377) (v := 1) dL_law_377 (by decide) ?_
  refine x_iadd (pc := 378) dL_law_378 ?_
  refine x_sld (pc := 379) h1 dL_law_379 ?_
  refine x_aload_n (pc := 380) dL_law_380 3 rfl rfl ?_
  refine x_iload_n (pc := 381) dL_law_381 0 rfl rfl ?_
  refine x_iconst (pc := 382) (v := 2) dL_law_382 (by decide) ?_
  refine x_iadd (pc := 383) dL_law_383 ?_
  refine x_sld (pc := 384) h2 dL_law_384 ?_
  refine x_callVI (pc := 385) 327 hq ok_X7_cut dL_law_385 tb_873 ⟨⟨rfl, rfl⟩, ⟨Nat.le_of_ble_eq_true rfl, Nat.le_of_ble_eq_true rfl⟩, Nat.le_of_ble_eq_true rfl, Nat.le_of_ble_eq_true rfl⟩ (mK hG (by decide)) (mc_327 hG _) rfl (As := [.int (xs (nI i + 1).toNatClampNeg), .int (xs (nI i + 2).toNatClampNeg)]) rfl rfl (Nat.le_of_ble_eq_true rfl) (fun r' m' hq2 => ?_)
  obtain ⟨rfl, I2⟩ := hq2
  refine x_icmp_eq (pc := 388) (tgt := 1123) dL_law_388 (by decide) (fun _ => h _ I2) (fun z => absurd rfl z)
set_option maxRecDepth 100000 in
set_option maxHeartbeats 4000000 in
theorem law_setEdgeWeight (hG : Mn G) (I : Inv mem) (h1 : vp_in (nI i + 1) L) (h2 : vp_in (nI i + 2) L) (h3 : vp_in (nI i + 3) L) (h : ∀ mem' : Mem, Inv mem' → XLw l nm b L xs G mem' 1123 (lvL b i G) []) : XLw l nm b L xs G mem 393 (lvL b i G) [] := by
  refine x_aload_n (pc := 393) dL_law_393 2 rfl rfl ?_
  refine x_aload_n (pc := 394) dL_law_394 3 rfl rfl ?_
  refine x_iload_n (pc := 395) dL_law_395 0 rfl rfl ?_
  refine x_iconst (pc := 396) (v := 1) dL_law_396 (by decide) ?_
  refine x_iadd (pc := 397) dL_law_397 ?_
  refine x_sld (pc := 398) h1 dL_law_398 ?_
  refine x_aload_n (pc := 399) dL_law_399 3 rfl rfl ?_
  refine x_iload_n (pc := 400) dL_law_400 0 rfl rfl ?_
  refine x_iconst (pc := 401) (v := 2) dL_law_401 (by decide) ?_
  refine x_iadd (pc := 402) dL_law_402 ?_
  refine x_sld (pc := 403) h2 dL_law_403 ?_
  refine x_aload_n (pc := 404) dL_law_404 3 rfl rfl ?_
  refine x_iload_n (pc := 405) dL_law_405 0 rfl rfl ?_
  refine x_iconst (pc := 406) (v := 3) dL_law_406 (by decide) ?_
  refine x_iadd (pc := 407) dL_law_407 ?_
  refine x_sld (pc := 408) h3 dL_law_408 ?_
  refine x_callVI (pc := 409) 0 (op_setEdgeWeight hG I _ _ _) ok_X6_setEdgeWeight dL_law_409 tb_416 ⟨⟨rfl, rfl⟩, ⟨Nat.le_of_ble_eq_true rfl, Nat.le_of_ble_eq_true rfl⟩, Nat.le_of_ble_eq_true rfl, Nat.le_of_ble_eq_true rfl⟩ (mK hG (by decide)) (mc_0 hG _) rfl (As := [.int (xs (nI i + 1).toNatClampNeg), .int (xs (nI i + 2).toNatClampNeg), .int (xs (nI i + 3).toNatClampNeg)]) rfl rfl (Nat.le_of_ble_eq_true rfl) (fun r m hq => ?_)
  refine x_aload_n (pc := 412) dL_law_412 1 rfl rfl ?_
  refine x_aload_n (pc := 413) dL_law_413 3 rfl rfl ?_
  refine x_iload_n (pc := 414) dL_law_414 0 rfl rfl ?_
  refine x_iconst (pc := 415) (v := 1) dL_law_415 (by decide) ?_
  refine x_iadd (pc := 416) dL_law_416 ?_
  refine x_sld (pc := 417) h1 dL_law_417 ?_
  refine x_aload_n (pc := 418) dL_law_418 3 rfl rfl ?_
  refine x_iload_n (pc := 419) dL_law_419 0 rfl rfl ?_
  refine x_iconst (pc := 420) (v := 2) dL_law_420 (by decide) ?_
  refine x_iadd (pc := 421) dL_law_421 ?_
  refine x_sld (pc := 422) h2 dL_law_422 ?_
  refine x_aload_n (pc := 423) dL_law_423 3 rfl rfl ?_
  refine x_iload_n (pc := 424) dL_law_424 0 rfl rfl ?_
  refine x_iconst (pc := 425) (v := 3) dL_law_425 (by decide) ?_
  refine x_iadd (pc := 426) dL_law_426 ?_
  refine x_sld (pc := 427) h3 dL_law_427 ?_
  refine x_callVI (pc := 428) 327 hq ok_X7_setEdgeWeight dL_law_428 tb_881 ⟨⟨rfl, rfl⟩, ⟨Nat.le_of_ble_eq_true rfl, Nat.le_of_ble_eq_true rfl⟩, Nat.le_of_ble_eq_true rfl, Nat.le_of_ble_eq_true rfl⟩ (mK hG (by decide)) (mc_327 hG _) rfl (As := [.int (xs (nI i + 1).toNatClampNeg), .int (xs (nI i + 2).toNatClampNeg), .int (xs (nI i + 3).toNatClampNeg)]) rfl rfl (Nat.le_of_ble_eq_true rfl) (fun r' m' hq2 => ?_)
  obtain ⟨rfl, I2⟩ := hq2
  refine x_icmp_eq (pc := 431) (tgt := 1123) dL_law_431 (by decide) (fun _ => h _ I2) (fun z => absurd rfl z)
set_option maxRecDepth 100000 in
set_option maxHeartbeats 4000000 in
theorem law_setVertexWeight (hG : Mn G) (I : Inv mem) (h1 : vp_in (nI i + 1) L) (h2 : vp_in (nI i + 2) L) (h3 : vp_in (nI i + 3) L) (h : ∀ mem' : Mem, Inv mem' → XLw l nm b L xs G mem' 1123 (lvL b i G) []) : XLw l nm b L xs G mem 436 (lvL b i G) [] := by
  refine x_aload_n (pc := 436) dL_law_436 2 rfl rfl ?_
  refine x_aload_n (pc := 437) dL_law_437 3 rfl rfl ?_
  refine x_iload_n (pc := 438) dL_law_438 0 rfl rfl ?_
  refine x_iconst (pc := 439) (v := 1) dL_law_439 (by decide) ?_
  refine x_iadd (pc := 440) dL_law_440 ?_
  refine x_sld (pc := 441) h1 dL_law_441 ?_
  refine x_aload_n (pc := 442) dL_law_442 3 rfl rfl ?_
  refine x_iload_n (pc := 443) dL_law_443 0 rfl rfl ?_
  refine x_iconst (pc := 444) (v := 2) dL_law_444 (by decide) ?_
  refine x_iadd (pc := 445) dL_law_445 ?_
  refine x_sld (pc := 446) h2 dL_law_446 ?_
  refine x_callVI (pc := 447) 0 (op_setVertexWeight hG I _ _) ok_X6_setVertexWeight dL_law_447 tb_420 ⟨⟨rfl, rfl⟩, ⟨Nat.le_of_ble_eq_true rfl, Nat.le_of_ble_eq_true rfl⟩, Nat.le_of_ble_eq_true rfl, Nat.le_of_ble_eq_true rfl⟩ (mK hG (by decide)) (mc_0 hG _) rfl (As := [.int (xs (nI i + 1).toNatClampNeg), .int (xs (nI i + 2).toNatClampNeg)]) rfl rfl (Nat.le_of_ble_eq_true rfl) (fun r m hq => ?_)
  refine x_aload_n (pc := 450) dL_law_450 1 rfl rfl ?_
  refine x_aload_n (pc := 451) dL_law_451 3 rfl rfl ?_
  refine x_iload_n (pc := 452) dL_law_452 0 rfl rfl ?_
  refine x_iconst (pc := 453) (v := 1) dL_law_453 (by decide) ?_
  refine x_iadd (pc := 454) dL_law_454 ?_
  refine x_sld (pc := 455) h1 dL_law_455 ?_
  refine x_aload_n (pc := 456) dL_law_456 3 rfl rfl ?_
  refine x_iload_n (pc := 457) dL_law_457 0 rfl rfl ?_
  refine x_iconst (pc := 458) (v := 2) dL_law_458 (by decide) ?_
  refine x_iadd (pc := 459) dL_law_459 ?_
  refine x_sld (pc := 460) h2 dL_law_460 ?_
  refine x_callVI (pc := 461) 327 hq ok_X7_setVertexWeight dL_law_461 tb_885 ⟨⟨rfl, rfl⟩, ⟨Nat.le_of_ble_eq_true rfl, Nat.le_of_ble_eq_true rfl⟩, Nat.le_of_ble_eq_true rfl, Nat.le_of_ble_eq_true rfl⟩ (mK hG (by decide)) (mc_327 hG _) rfl (As := [.int (xs (nI i + 1).toNatClampNeg), .int (xs (nI i + 2).toNatClampNeg)]) rfl rfl (Nat.le_of_ble_eq_true rfl) (fun r' m' hq2 => ?_)
  obtain ⟨rfl, I2⟩ := hq2
  refine x_icmp_eq (pc := 464) (tgt := 1123) dL_law_464 (by decide) (fun _ => h _ I2) (fun z => absurd rfl z)
set_option maxRecDepth 100000 in
set_option maxHeartbeats 4000000 in
theorem law_undo (hG : Mn G) (I : Inv mem) (h1 : vp_in (nI i + 1) L) (h2 : vp_in (nI i + 2) L) (h3 : vp_in (nI i + 3) L) (h : ∀ mem' : Mem, Inv mem' → XLw l nm b L xs G mem' 1123 (lvL b i G) []) : XLw l nm b L xs G mem 469 (lvL b i G) [] := by
  refine x_aload_n (pc := 469) dL_law_469 2 rfl rfl ?_
  refine x_callVI (pc := 470) 0 (op_undo hG I) ok_X6_undo dL_law_470 tb_425 ⟨⟨rfl, rfl⟩, ⟨Nat.le_of_ble_eq_true rfl, Nat.le_of_ble_eq_true rfl⟩, Nat.le_of_ble_eq_true rfl, Nat.le_of_ble_eq_true rfl⟩ (mK hG (by decide)) (mc_0 hG _) rfl (As := []) rfl rfl (Nat.le_of_ble_eq_true rfl) (fun r m hq => ?_)
  refine x_aload_n (pc := 473) dL_law_473 1 rfl rfl ?_
  refine x_callVI (pc := 474) 327 hq ok_X7_undo dL_law_474 tb_889 ⟨⟨rfl, rfl⟩, ⟨Nat.le_of_ble_eq_true rfl, Nat.le_of_ble_eq_true rfl⟩, Nat.le_of_ble_eq_true rfl, Nat.le_of_ble_eq_true rfl⟩ (mK hG (by decide)) (mc_327 hG _) rfl (As := []) rfl rfl (Nat.le_of_ble_eq_true rfl) (fun r' m' hq2 => ?_)
  obtain ⟨rfl, I2⟩ := hq2
  refine x_icmp_eq (pc := 477) (tgt := 1123) dL_law_477 (by decide) (fun _ => h _ I2) (fun z => absurd rfl z)
set_option maxRecDepth 100000 in
set_option maxHeartbeats 4000000 in
theorem law_distance (hG : Mn G) (I : Inv mem) (h1 : vp_in (nI i + 1) L) (h2 : vp_in (nI i + 2) L) (h3 : vp_in (nI i + 3) L) (h : ∀ mem' : Mem, Inv mem' → XLw l nm b L xs G mem' 1123 (lvL b i G) []) : XLw l nm b L xs G mem 482 (lvL b i G) [] := by
  refine x_aload_n (pc := 482) dL_law_482 2 rfl rfl ?_
  refine x_aload_n (pc := 483) dL_law_483 3 rfl rfl ?_
  refine x_iload_n (pc := 484) dL_law_484 0 rfl rfl ?_
  refine x_iconst (pc := 485) (v := 1) dL_law_485 (by decide) ?_
  refine x_iadd (pc := 486) dL_law_486 ?_
  refine x_sld (pc := 487) h1 dL_law_487 ?_
  refine x_aload_n (pc := 488) dL_law_488 3 rfl rfl ?_
  refine x_iload_n (pc := 489) dL_law_489 0 rfl rfl ?_
  refine x_iconst (pc := 490) (v := 2) dL_law_490 (by decide) ?_
  refine x_iadd (pc := 491) dL_law_491 ?_
  refine x_sld (pc := 492) h2 dL_law_492 ?_
  refine x_callVI (pc := 493) 0 (op_distance hG I _ _) ok_X6_distance dL_law_493 tb_437 ⟨⟨rfl, rfl⟩, ⟨Nat.le_of_ble_eq_true rfl, Nat.le_of_ble_eq_true rfl⟩, Nat.le_of_ble_eq_true rfl, Nat.le_of_ble_eq_true rfl⟩ (mK hG (by decide)) (mc_0 hG _) rfl (As := [.int (xs (nI i + 1).toNatClampNeg), .int (xs (nI i + 2).toNatClampNeg)]) rfl rfl (Nat.le_of_ble_eq_true rfl) (fun r m hq => ?_)
  refine x_aload_n (pc := 496) dL_law_496 1 rfl rfl ?_
  refine x_aload_n (pc := 497) dL_law_497 3 rfl rfl ?_
  refine x_iload_n (pc := 498) dL_law_498 0 rfl rfl ?_
  refine x_iconst (pc := 499) (v := 1) dL_law_499 (by decide) ?_
  refine x_iadd (pc := 500) dL_law_500 ?_
  refine x_sld (pc := 501) h1 dL_law_501 ?_
  refine x_aload_n (pc := 502) dL_law_502 3 rfl rfl ?_
  refine x_iload_n (pc := 503) dL_law_503 0 rfl rfl ?_
  refine x_iconst (pc := 504) (v := 2) dL_law_504 (by decide) ?_
  refine x_iadd (pc := 505) dL_law_505 ?_
  refine x_sld (pc := 506) h2 dL_law_506 ?_
  refine x_callVI (pc := 507) 327 hq ok_X7_distance dL_law_507 tb_893 ⟨⟨rfl, rfl⟩, ⟨Nat.le_of_ble_eq_true rfl, Nat.le_of_ble_eq_true rfl⟩, Nat.le_of_ble_eq_true rfl, Nat.le_of_ble_eq_true rfl⟩ (mK hG (by decide)) (mc_327 hG _) rfl (As := [.int (xs (nI i + 1).toNatClampNeg), .int (xs (nI i + 2).toNatClampNeg)]) rfl rfl (Nat.le_of_ble_eq_true rfl) (fun r' m' hq2 => ?_)
  obtain ⟨rfl, I2⟩ := hq2
  refine x_icmp_eq (pc := 510) (tgt := 1123) dL_law_510 (by decide) (fun _ => h _ I2) (fun z => absurd rfl z)
set_option maxRecDepth 100000 in
set_option maxHeartbeats 4000000 in
theorem law_pathVertex (hG : Mn G) (I : Inv mem) (h1 : vp_in (nI i + 1) L) (h2 : vp_in (nI i + 2) L) (h3 : vp_in (nI i + 3) L) (h : ∀ mem' : Mem, Inv mem' → XLw l nm b L xs G mem' 1123 (lvL b i G) []) : XLw l nm b L xs G mem 515 (lvL b i G) [] := by
  refine x_aload_n (pc := 515) dL_law_515 2 rfl rfl ?_
  refine x_aload_n (pc := 516) dL_law_516 3 rfl rfl ?_
  refine x_iload_n (pc := 517) dL_law_517 0 rfl rfl ?_
  refine x_iconst (pc := 518) (v := 1) dL_law_518 (by decide) ?_
  refine x_iadd (pc := 519) dL_law_519 ?_
  refine x_sld (pc := 520) h1 dL_law_520 ?_
  refine x_aload_n (pc := 521) dL_law_521 3 rfl rfl ?_
  refine x_iload_n (pc := 522) dL_law_522 0 rfl rfl ?_
  refine x_iconst (pc := 523) (v := 2) dL_law_523 (by decide) ?_
  refine x_iadd (pc := 524) dL_law_524 ?_
  refine x_sld (pc := 525) h2 dL_law_525 ?_
  refine x_aload_n (pc := 526) dL_law_526 3 rfl rfl ?_
  refine x_iload_n (pc := 527) dL_law_527 0 rfl rfl ?_
  refine x_iconst (pc := 528) (v := 3) dL_law_528 (by decide) ?_
  refine x_iadd (pc := 529) dL_law_529 ?_
  refine x_sld (pc := 530) h3 dL_law_530 ?_
  refine x_callVI (pc := 531) 0 (op_pathVertex hG I _ _ _) ok_X6_pathVertex dL_law_531 tb_442 ⟨⟨rfl, rfl⟩, ⟨Nat.le_of_ble_eq_true rfl, Nat.le_of_ble_eq_true rfl⟩, Nat.le_of_ble_eq_true rfl, Nat.le_of_ble_eq_true rfl⟩ (mK hG (by decide)) (mc_0 hG _) rfl (As := [.int (xs (nI i + 1).toNatClampNeg), .int (xs (nI i + 2).toNatClampNeg), .int (xs (nI i + 3).toNatClampNeg)]) rfl rfl (Nat.le_of_ble_eq_true rfl) (fun r m hq => ?_)
  refine x_aload_n (pc := 534) dL_law_534 1 rfl rfl ?_
  refine x_aload_n (pc := 535) dL_law_535 3 rfl rfl ?_
  refine x_iload_n (pc := 536) dL_law_536 0 rfl rfl ?_
  refine x_iconst (pc := 537) (v := 1) dL_law_537 (by decide) ?_
  refine x_iadd (pc := 538) dL_law_538 ?_
  refine x_sld (pc := 539) h1 dL_law_539 ?_
  refine x_aload_n (pc := 540) dL_law_540 3 rfl rfl ?_
  refine x_iload_n (pc := 541) dL_law_541 0 rfl rfl ?_
  refine x_iconst (pc := 542) (v := 2) dL_law_542 (by decide) ?_
  refine x_iadd (pc := 543) dL_law_543 ?_
  refine x_sld (pc := 544) h2 dL_law_544 ?_
  refine x_aload_n (pc := 545) dL_law_545 3 rfl rfl ?_
  refine x_iload_n (pc := 546) dL_law_546 0 rfl rfl ?_
  refine x_iconst (pc := 547) (v := 3) dL_law_547 (by decide) ?_
  refine x_iadd (pc := 548) dL_law_548 ?_
  refine x_sld (pc := 549) h3 dL_law_549 ?_
  refine x_callVI (pc := 550) 327 hq ok_X7_pathVertex dL_law_550 tb_897 ⟨⟨rfl, rfl⟩, ⟨Nat.le_of_ble_eq_true rfl, Nat.le_of_ble_eq_true rfl⟩, Nat.le_of_ble_eq_true rfl, Nat.le_of_ble_eq_true rfl⟩ (mK hG (by decide)) (mc_327 hG _) rfl (As := [.int (xs (nI i + 1).toNatClampNeg), .int (xs (nI i + 2).toNatClampNeg), .int (xs (nI i + 3).toNatClampNeg)]) rfl rfl (Nat.le_of_ble_eq_true rfl) (fun r' m' hq2 => ?_)
  obtain ⟨rfl, I2⟩ := hq2
  refine x_icmp_eq (pc := 553) (tgt := 1123) dL_law_553 (by decide) (fun _ => h _ I2) (fun z => absurd rfl z)
set_option maxRecDepth 100000 in
set_option maxHeartbeats 4000000 in
theorem law_eccentricity (hG : Mn G) (I : Inv mem) (h1 : vp_in (nI i + 1) L) (h2 : vp_in (nI i + 2) L) (h3 : vp_in (nI i + 3) L) (h : ∀ mem' : Mem, Inv mem' → XLw l nm b L xs G mem' 1123 (lvL b i G) []) : XLw l nm b L xs G mem 558 (lvL b i G) [] := by
  refine x_aload_n (pc := 558) dL_law_558 2 rfl rfl ?_
  refine x_aload_n (pc := 559) dL_law_559 3 rfl rfl ?_
  refine x_iload_n (pc := 560) dL_law_560 0 rfl rfl ?_
  refine x_iconst (pc := 561) (v := 1) dL_law_561 (by decide) ?_
  refine x_iadd (pc := 562) dL_law_562 ?_
  refine x_sld (pc := 563) h1 dL_law_563 ?_
  refine x_callVI (pc := 564) 0 (op_eccentricity hG I _) ok_X6_eccentricity dL_law_564 tb_455 ⟨⟨rfl, rfl⟩, ⟨Nat.le_of_ble_eq_true rfl, Nat.le_of_ble_eq_true rfl⟩, Nat.le_of_ble_eq_true rfl, Nat.le_of_ble_eq_true rfl⟩ (mK hG (by decide)) (mc_0 hG _) rfl (As := [.int (xs (nI i + 1).toNatClampNeg)]) rfl rfl (Nat.le_of_ble_eq_true rfl) (fun r m hq => ?_)
  refine x_aload_n (pc := 567) dL_law_567 1 rfl rfl ?_
  refine x_aload_n (pc := 568) dL_law_568 3 rfl rfl ?_
  refine x_iload_n (pc := 569) dL_law_569 0 rfl rfl ?_
  refine x_iconst (pc := 570) (v := 1) dL_law_570 (by decide) ?_
  refine x_iadd (pc := 571) dL_law_571 ?_
  refine x_sld (pc := 572) h1 dL_law_572 ?_
  refine x_callVI (pc := 573) 327 hq ok_X7_eccentricity dL_law_573 tb_901 ⟨⟨rfl, rfl⟩, ⟨Nat.le_of_ble_eq_true rfl, Nat.le_of_ble_eq_true rfl⟩, Nat.le_of_ble_eq_true rfl, Nat.le_of_ble_eq_true rfl⟩ (mK hG (by decide)) (mc_327 hG _) rfl (As := [.int (xs (nI i + 1).toNatClampNeg)]) rfl rfl (Nat.le_of_ble_eq_true rfl) (fun r' m' hq2 => ?_)
  obtain ⟨rfl, I2⟩ := hq2
  refine x_icmp_eq (pc := 576) (tgt := 1123) dL_law_576 (by decide) (fun _ => h _ I2) (fun z => absurd rfl z)
set_option maxRecDepth 100000 in
set_option maxHeartbeats 4000000 in
theorem law_diameter (hG : Mn G) (I : Inv mem) (h1 : vp_in (nI i + 1) L) (h2 : vp_in (nI i + 2) L) (h3 : vp_in (nI i + 3) L) (h : ∀ mem' : Mem, Inv mem' → XLw l nm b L xs G mem' 1123 (lvL b i G) []) : XLw l nm b L xs G mem 581 (lvL b i G) [] := by
  refine x_aload_n (pc := 581) dL_law_581 2 rfl rfl ?_
  refine x_aload_n (pc := 582) dL_law_582 3 rfl rfl ?_
  refine x_iload_n (pc := 583) dL_law_583 0 rfl rfl ?_
  refine x_iconst (pc := 584) (v := 1) dL_law_584 (by decide) ?_
  refine x_iadd (pc := 585) dL_law_585 ?_
  refine x_sld (pc := 586) h1 dL_law_586 ?_
  refine x_callVI (pc := 587) 0 (op_diameter hG I _) ok_X6_diameter dL_law_587 tb_467 ⟨⟨rfl, rfl⟩, ⟨Nat.le_of_ble_eq_true rfl, Nat.le_of_ble_eq_true rfl⟩, Nat.le_of_ble_eq_true rfl, Nat.le_of_ble_eq_true rfl⟩ (mK hG (by decide)) (mc_0 hG _) rfl (As := [.int (xs (nI i + 1).toNatClampNeg)]) rfl rfl (Nat.le_of_ble_eq_true rfl) (fun r m hq => ?_)
  refine x_aload_n (pc := 590) dL_law_590 1 rfl rfl ?_
  refine x_aload_n (pc := 591) dL_law_591 3 rfl rfl ?_
  refine x_iload_n (pc := 592) dL_law_592 0 rfl rfl ?_
  refine x_iconst (pc := 593) (v := 1) dL_law_593 (by decide) ?_
  refine x_iadd (pc := 594) dL_law_594 ?_
  refine x_sld (pc := 595) h1 dL_law_595 ?_
  refine x_callVI (pc := 596) 327 hq ok_X7_diameter dL_law_596 tb_909 ⟨⟨rfl, rfl⟩, ⟨Nat.le_of_ble_eq_true rfl, Nat.le_of_ble_eq_true rfl⟩, Nat.le_of_ble_eq_true rfl, Nat.le_of_ble_eq_true rfl⟩ (mK hG (by decide)) (mc_327 hG _) rfl (As := [.int (xs (nI i + 1).toNatClampNeg)]) rfl rfl (Nat.le_of_ble_eq_true rfl) (fun r' m' hq2 => ?_)
  obtain ⟨rfl, I2⟩ := hq2
  refine x_icmp_eq (pc := 599) (tgt := 1123) dL_law_599 (by decide) (fun _ => h _ I2) (fun z => absurd rfl z)
set_option maxRecDepth 100000 in
set_option maxHeartbeats 4000000 in
theorem law_diameterEnd (hG : Mn G) (I : Inv mem) (h1 : vp_in (nI i + 1) L) (h2 : vp_in (nI i + 2) L) (h3 : vp_in (nI i + 3) L) (h : ∀ mem' : Mem, Inv mem' → XLw l nm b L xs G mem' 1123 (lvL b i G) []) : XLw l nm b L xs G mem 604 (lvL b i G) [] := by
  refine x_aload_n (pc := 604) dL_law_604 2 rfl rfl ?_
  refine x_aload_n (pc := 605) dL_law_605 3 rfl rfl ?_
  refine x_iload_n (pc := 606) dL_law_606 0 rfl rfl ?_
  refine x_iconst (pc := 607) (v := 1) dL_law_607 (by decide) ?_
  refine x_iadd (pc := 608) dL_law_608 ?_
  refine x_sld (pc := 609) h1 dL_law_609 ?_
  refine x_aload_n (pc := 610) dL_law_610 3 rfl rfl ?_
  refine x_iload_n (pc := 611) dL_law_611 0 rfl rfl ?_
  refine x_iconst (pc := 612) (v := 2) dL_law_612 (by decide) ?_
  refine x_iadd (pc := 613) dL_law_613 ?_
  refine x_sld (pc := 614) h2 dL_law_614 ?_
  refine x_callVI (pc := 615) 0 (op_diameterEnd hG I _ _) ok_X6_diameterEnd dL_law_615 tb_480 ⟨⟨rfl, rfl⟩, ⟨Nat.le_of_ble_eq_true rfl, Nat.le_of_ble_eq_true rfl⟩, Nat.le_of_ble_eq_true rfl, Nat.le_of_ble_eq_true rfl⟩ (mK hG (by decide)) (mc_0 hG _) rfl (As := [.int (xs (nI i + 1).toNatClampNeg), .int (xs (nI i + 2).toNatClampNeg)]) rfl rfl (Nat.le_of_ble_eq_true rfl) (fun r m hq => ?_)
  refine x_aload_n (pc := 618) dL_law_618 1 rfl rfl ?_
  refine x_aload_n (pc := 619) dL_law_619 3 rfl rfl ?_
  refine x_iload_n (pc := 620) dL_law_620 0 rfl rfl ?_
  refine x_iconst (pc := 621) (v := 1) dL_law_621 (by decide) ?_
  refine x_iadd (pc := 622) dL_law_622 ?_
  refine x_sld (pc := 623) h1 dL_law_623 ?_
  refine x_aload_n (pc := 624) dL_law_624 3 rfl rfl ?_
  refine x_iload_n (pc := 625) dL_law_625 0 rfl rfl ?_
  refine x_iconst (pc := 626) (v := 2) dL_law_626 (by decide) ?_
  refine x_iadd (pc := 627) dL_law_627 ?_
  refine x_sld (pc := 628) h2 dL_law_628 ?_
  refine x_callVI (pc := 629) 327 hq ok_X7_diameterEnd dL_law_629 tb_917 ⟨⟨rfl, rfl⟩, ⟨Nat.le_of_ble_eq_true rfl, Nat.le_of_ble_eq_true rfl⟩, Nat.le_of_ble_eq_true rfl, Nat.le_of_ble_eq_true rfl⟩ (mK hG (by decide)) (mc_327 hG _) rfl (As := [.int (xs (nI i + 1).toNatClampNeg), .int (xs (nI i + 2).toNatClampNeg)]) rfl rfl (Nat.le_of_ble_eq_true rfl) (fun r' m' hq2 => ?_)
  obtain ⟨rfl, I2⟩ := hq2
  refine x_icmp_eq (pc := 632) (tgt := 1123) dL_law_632 (by decide) (fun _ => h _ I2) (fun z => absurd rfl z)
set_option maxRecDepth 100000 in
set_option maxHeartbeats 4000000 in
theorem law_centre (hG : Mn G) (I : Inv mem) (h1 : vp_in (nI i + 1) L) (h2 : vp_in (nI i + 2) L) (h3 : vp_in (nI i + 3) L) (h : ∀ mem' : Mem, Inv mem' → XLw l nm b L xs G mem' 1123 (lvL b i G) []) : XLw l nm b L xs G mem 637 (lvL b i G) [] := by
  refine x_aload_n (pc := 637) dL_law_637 2 rfl rfl ?_
  refine x_aload_n (pc := 638) dL_law_638 3 rfl rfl ?_
  refine x_iload_n (pc := 639) dL_law_639 0 rfl rfl ?_
  refine x_iconst (pc := 640) (v := 1) dL_law_640 (by decide) ?_
  refine x_iadd (pc := 641) dL_law_641 ?_
  refine x_sld (pc := 642) h1 dL_law_642 ?_
  refine x_callVI (pc := 643) 0 (op_centre hG I _) ok_X6_centre dL_law_643 tb_486 ⟨⟨rfl, rfl⟩, ⟨Nat.le_of_ble_eq_true rfl, Nat.le_of_ble_eq_true rfl⟩, Nat.le_of_ble_eq_true rfl, Nat.le_of_ble_eq_true rfl⟩ (mK hG (by decide)) (mc_0 hG _) rfl (As := [.int (xs (nI i + 1).toNatClampNeg)]) rfl rfl (Nat.le_of_ble_eq_true rfl) (fun r m hq => ?_)
  refine x_aload_n (pc := 646) dL_law_646 1 rfl rfl ?_
  refine x_aload_n (pc := 647) dL_law_647 3 rfl rfl ?_
  refine x_iload_n (pc := 648) dL_law_648 0 rfl rfl ?_
  refine x_iconst (pc := 649) (v := 1) dL_law_649 (by decide) ?_
  refine x_iadd (pc := 650) dL_law_650 ?_
  refine x_sld (pc := 651) h1 dL_law_651 ?_
  refine x_callVI (pc := 652) 327 hq ok_X7_centre dL_law_652 tb_921 ⟨⟨rfl, rfl⟩, ⟨Nat.le_of_ble_eq_true rfl, Nat.le_of_ble_eq_true rfl⟩, Nat.le_of_ble_eq_true rfl, Nat.le_of_ble_eq_true rfl⟩ (mK hG (by decide)) (mc_327 hG _) rfl (As := [.int (xs (nI i + 1).toNatClampNeg)]) rfl rfl (Nat.le_of_ble_eq_true rfl) (fun r' m' hq2 => ?_)
  obtain ⟨rfl, I2⟩ := hq2
  refine x_icmp_eq (pc := 655) (tgt := 1123) dL_law_655 (by decide) (fun _ => h _ I2) (fun z => absurd rfl z)
set_option maxRecDepth 100000 in
set_option maxHeartbeats 4000000 in
theorem law_median (hG : Mn G) (I : Inv mem) (h1 : vp_in (nI i + 1) L) (h2 : vp_in (nI i + 2) L) (h3 : vp_in (nI i + 3) L) (h : ∀ mem' : Mem, Inv mem' → XLw l nm b L xs G mem' 1123 (lvL b i G) []) : XLw l nm b L xs G mem 660 (lvL b i G) [] := by
  refine x_aload_n (pc := 660) dL_law_660 2 rfl rfl ?_
  refine x_aload_n (pc := 661) dL_law_661 3 rfl rfl ?_
  refine x_iload_n (pc := 662) dL_law_662 0 rfl rfl ?_
  refine x_iconst (pc := 663) (v := 1) dL_law_663 (by decide) ?_
  refine x_iadd (pc := 664) dL_law_664 ?_
  refine x_sld (pc := 665) h1 dL_law_665 ?_
  refine x_callVI (pc := 666) 0 (op_median hG I _) ok_X6_median dL_law_666 tb_495 ⟨⟨rfl, rfl⟩, ⟨Nat.le_of_ble_eq_true rfl, Nat.le_of_ble_eq_true rfl⟩, Nat.le_of_ble_eq_true rfl, Nat.le_of_ble_eq_true rfl⟩ (mK hG (by decide)) (mc_0 hG _) rfl (As := [.int (xs (nI i + 1).toNatClampNeg)]) rfl rfl (Nat.le_of_ble_eq_true rfl) (fun r m hq => ?_)
  refine x_aload_n (pc := 669) dL_law_669 1 rfl rfl ?_
  refine x_aload_n (pc := 670) dL_law_670 3 rfl rfl ?_
  refine x_iload_n (pc := 671) dL_law_671 0 rfl rfl ?_
  refine x_iconst (pc := 672) (v := 1) dL_law_672 (by decide) ?_
  refine x_iadd (pc := 673) dL_law_673 ?_
  refine x_sld (pc := 674) h1 dL_law_674 ?_
  refine x_callVI (pc := 675) 327 hq ok_X7_median dL_law_675 tb_933 ⟨⟨rfl, rfl⟩, ⟨Nat.le_of_ble_eq_true rfl, Nat.le_of_ble_eq_true rfl⟩, Nat.le_of_ble_eq_true rfl, Nat.le_of_ble_eq_true rfl⟩ (mK hG (by decide)) (mc_327 hG _) rfl (As := [.int (xs (nI i + 1).toNatClampNeg)]) rfl rfl (Nat.le_of_ble_eq_true rfl) (fun r' m' hq2 => ?_)
  obtain ⟨rfl, I2⟩ := hq2
  refine x_icmp_eq (pc := 678) (tgt := 1123) dL_law_678 (by decide) (fun _ => h _ I2) (fun z => absurd rfl z)
set_option maxRecDepth 100000 in
set_option maxHeartbeats 4000000 in
theorem law_cost (hG : Mn G) (I : Inv mem) (h1 : vp_in (nI i + 1) L) (h2 : vp_in (nI i + 2) L) (h3 : vp_in (nI i + 3) L) (h : ∀ mem' : Mem, Inv mem' → XLw l nm b L xs G mem' 1123 (lvL b i G) []) : XLw l nm b L xs G mem 683 (lvL b i G) [] := by
  refine x_aload_n (pc := 683) dL_law_683 2 rfl rfl ?_
  refine x_aload_n (pc := 684) dL_law_684 3 rfl rfl ?_
  refine x_iload_n (pc := 685) dL_law_685 0 rfl rfl ?_
  refine x_iconst (pc := 686) (v := 1) dL_law_686 (by decide) ?_
  refine x_iadd (pc := 687) dL_law_687 ?_
  refine x_sld (pc := 688) h1 dL_law_688 ?_
  refine x_callVI (pc := 689) 0 (op_cost hG I _) ok_X6_cost dL_law_689 tb_508 ⟨⟨rfl, rfl⟩, ⟨Nat.le_of_ble_eq_true rfl, Nat.le_of_ble_eq_true rfl⟩, Nat.le_of_ble_eq_true rfl, Nat.le_of_ble_eq_true rfl⟩ (mK hG (by decide)) (mc_0 hG _) rfl (As := [.int (xs (nI i + 1).toNatClampNeg)]) rfl rfl (Nat.le_of_ble_eq_true rfl) (fun r m hq => ?_)
  refine x_aload_n (pc := 692) dL_law_692 1 rfl rfl ?_
  refine x_aload_n (pc := 693) dL_law_693 3 rfl rfl ?_
  refine x_iload_n (pc := 694) dL_law_694 0 rfl rfl ?_
  refine x_iconst (pc := 695) (v := 1) dL_law_695 (by decide) ?_
  refine x_iadd (pc := 696) dL_law_696 ?_
  refine x_sld (pc := 697) h1 dL_law_697 ?_
  refine x_callVI (pc := 698) 327 hq ok_X7_cost dL_law_698 tb_937 ⟨⟨rfl, rfl⟩, ⟨Nat.le_of_ble_eq_true rfl, Nat.le_of_ble_eq_true rfl⟩, Nat.le_of_ble_eq_true rfl, Nat.le_of_ble_eq_true rfl⟩ (mK hG (by decide)) (mc_327 hG _) rfl (As := [.int (xs (nI i + 1).toNatClampNeg)]) rfl rfl (Nat.le_of_ble_eq_true rfl) (fun r' m' hq2 => ?_)
  obtain ⟨rfl, I2⟩ := hq2
  refine x_icmp_eq (pc := 701) (tgt := 1123) dL_law_701 (by decide) (fun _ => h _ I2) (fun z => absurd rfl z)
set_option maxRecDepth 100000 in
set_option maxHeartbeats 4000000 in
theorem law_meeting (hG : Mn G) (I : Inv mem) (h1 : vp_in (nI i + 1) L) (h2 : vp_in (nI i + 2) L) (h3 : vp_in (nI i + 3) L) (h : ∀ mem' : Mem, Inv mem' → XLw l nm b L xs G mem' 1123 (lvL b i G) []) : XLw l nm b L xs G mem 706 (lvL b i G) [] := by
  refine x_aload_n (pc := 706) dL_law_706 2 rfl rfl ?_
  refine x_aload_n (pc := 707) dL_law_707 3 rfl rfl ?_
  refine x_iload_n (pc := 708) dL_law_708 0 rfl rfl ?_
  refine x_iconst (pc := 709) (v := 1) dL_law_709 (by decide) ?_
  refine x_iadd (pc := 710) dL_law_710 ?_
  refine x_sld (pc := 711) h1 dL_law_711 ?_
  refine x_aload_n (pc := 712) dL_law_712 3 rfl rfl ?_
  refine x_iload_n (pc := 713) dL_law_713 0 rfl rfl ?_
  refine x_iconst (pc := 714) (v := 2) dL_law_714 (by decide) ?_
  refine x_iadd (pc := 715) dL_law_715 ?_
  refine x_sld (pc := 716) h2 dL_law_716 ?_
  refine x_aload_n (pc := 717) dL_law_717 3 rfl rfl ?_
  refine x_iload_n (pc := 718) dL_law_718 0 rfl rfl ?_
  refine x_iconst (pc := 719) (v := 3) dL_law_719 (by decide) ?_
  refine x_iadd (pc := 720) dL_law_720 ?_
  refine x_sld (pc := 721) h3 dL_law_721 ?_
  refine x_callVI (pc := 722) 0 (op_meeting hG I _ _ _) ok_X6_meeting dL_law_722 tb_513 ⟨⟨rfl, rfl⟩, ⟨Nat.le_of_ble_eq_true rfl, Nat.le_of_ble_eq_true rfl⟩, Nat.le_of_ble_eq_true rfl, Nat.le_of_ble_eq_true rfl⟩ (mK hG (by decide)) (mc_0 hG _) rfl (As := [.int (xs (nI i + 1).toNatClampNeg), .int (xs (nI i + 2).toNatClampNeg), .int (xs (nI i + 3).toNatClampNeg)]) rfl rfl (Nat.le_of_ble_eq_true rfl) (fun r m hq => ?_)
  refine x_aload_n (pc := 725) dL_law_725 1 rfl rfl ?_
  refine x_aload_n (pc := 726) dL_law_726 3 rfl rfl ?_
  refine x_iload_n (pc := 727) dL_law_727 0 rfl rfl ?_
  refine x_iconst (pc := 728) (v := 1) dL_law_728 (by decide) ?_
  refine x_iadd (pc := 729) dL_law_729 ?_
  refine x_sld (pc := 730) h1 dL_law_730 ?_
  refine x_aload_n (pc := 731) dL_law_731 3 rfl rfl ?_
  refine x_iload_n (pc := 732) dL_law_732 0 rfl rfl ?_
  refine x_iconst (pc := 733) (v := 2) dL_law_733 (by decide) ?_
  refine x_iadd (pc := 734) dL_law_734 ?_
  refine x_sld (pc := 735) h2 dL_law_735 ?_
  refine x_aload_n (pc := 736) dL_law_736 3 rfl rfl ?_
  refine x_iload_n (pc := 737) dL_law_737 0 rfl rfl ?_
  refine x_iconst (pc := 738) (v := 3) dL_law_738 (by decide) ?_
  refine x_iadd (pc := 739) dL_law_739 ?_
  refine x_sld (pc := 740) h3 dL_law_740 ?_
  refine x_callVI (pc := 741) 327 hq ok_X7_meeting dL_law_741 tb_941 ⟨⟨rfl, rfl⟩, ⟨Nat.le_of_ble_eq_true rfl, Nat.le_of_ble_eq_true rfl⟩, Nat.le_of_ble_eq_true rfl, Nat.le_of_ble_eq_true rfl⟩ (mK hG (by decide)) (mc_327 hG _) rfl (As := [.int (xs (nI i + 1).toNatClampNeg), .int (xs (nI i + 2).toNatClampNeg), .int (xs (nI i + 3).toNatClampNeg)]) rfl rfl (Nat.le_of_ble_eq_true rfl) (fun r' m' hq2 => ?_)
  obtain ⟨rfl, I2⟩ := hq2
  refine x_icmp_eq (pc := 744) (tgt := 1123) dL_law_744 (by decide) (fun _ => h _ I2) (fun z => absurd rfl z)
set_option maxRecDepth 100000 in
set_option maxHeartbeats 4000000 in
theorem law_rounds (hG : Mn G) (I : Inv mem) (h1 : vp_in (nI i + 1) L) (h2 : vp_in (nI i + 2) L) (h3 : vp_in (nI i + 3) L) (h : ∀ mem' : Mem, Inv mem' → XLw l nm b L xs G mem' 1123 (lvL b i G) []) : XLw l nm b L xs G mem 749 (lvL b i G) [] := by
  refine x_aload_n (pc := 749) dL_law_749 2 rfl rfl ?_
  refine x_aload_n (pc := 750) dL_law_750 3 rfl rfl ?_
  refine x_iload_n (pc := 751) dL_law_751 0 rfl rfl ?_
  refine x_iconst (pc := 752) (v := 1) dL_law_752 (by decide) ?_
  refine x_iadd (pc := 753) dL_law_753 ?_
  refine x_sld (pc := 754) h1 dL_law_754 ?_
  refine x_callVI (pc := 755) 0 (op_rounds hG I _) ok_X6_rounds dL_law_755 tb_525 ⟨⟨rfl, rfl⟩, ⟨Nat.le_of_ble_eq_true rfl, Nat.le_of_ble_eq_true rfl⟩, Nat.le_of_ble_eq_true rfl, Nat.le_of_ble_eq_true rfl⟩ (mK hG (by decide)) (mc_0 hG _) rfl (As := [.int (xs (nI i + 1).toNatClampNeg)]) rfl rfl (Nat.le_of_ble_eq_true rfl) (fun r m hq => ?_)
  refine x_aload_n (pc := 758) dL_law_758 1 rfl rfl ?_
  refine x_aload_n (pc := 759) dL_law_759 3 rfl rfl ?_
  refine x_iload_n (pc := 760) dL_law_760 0 rfl rfl ?_
  refine x_iconst (pc := 761) (v := 1) dL_law_761 (by decide) ?_
  refine x_iadd (pc := 762) dL_law_762 ?_
  refine x_sld (pc := 763) h1 dL_law_763 ?_
  refine x_callVI (pc := 764) 327 hq ok_X7_rounds dL_law_764 tb_949 ⟨⟨rfl, rfl⟩, ⟨Nat.le_of_ble_eq_true rfl, Nat.le_of_ble_eq_true rfl⟩, Nat.le_of_ble_eq_true rfl, Nat.le_of_ble_eq_true rfl⟩ (mK hG (by decide)) (mc_327 hG _) rfl (As := [.int (xs (nI i + 1).toNatClampNeg)]) rfl rfl (Nat.le_of_ble_eq_true rfl) (fun r' m' hq2 => ?_)
  obtain ⟨rfl, I2⟩ := hq2
  refine x_icmp_eq (pc := 767) (tgt := 1123) dL_law_767 (by decide) (fun _ => h _ I2) (fun z => absurd rfl z)
set_option maxRecDepth 100000 in
set_option maxHeartbeats 4000000 in
theorem law_removalRound (hG : Mn G) (I : Inv mem) (h1 : vp_in (nI i + 1) L) (h2 : vp_in (nI i + 2) L) (h3 : vp_in (nI i + 3) L) (h : ∀ mem' : Mem, Inv mem' → XLw l nm b L xs G mem' 1123 (lvL b i G) []) : XLw l nm b L xs G mem 772 (lvL b i G) [] := by
  refine x_aload_n (pc := 772) dL_law_772 2 rfl rfl ?_
  refine x_aload_n (pc := 773) dL_law_773 3 rfl rfl ?_
  refine x_iload_n (pc := 774) dL_law_774 0 rfl rfl ?_
  refine x_iconst (pc := 775) (v := 1) dL_law_775 (by decide) ?_
  refine x_iadd (pc := 776) dL_law_776 ?_
  refine x_sld (pc := 777) h1 dL_law_777 ?_
  refine x_callVI (pc := 778) 0 (op_removalRound hG I _) ok_X6_removalRound dL_law_778 tb_588 ⟨⟨rfl, rfl⟩, ⟨Nat.le_of_ble_eq_true rfl, Nat.le_of_ble_eq_true rfl⟩, Nat.le_of_ble_eq_true rfl, Nat.le_of_ble_eq_true rfl⟩ (mK hG (by decide)) (mc_0 hG _) rfl (As := [.int (xs (nI i + 1).toNatClampNeg)]) rfl rfl (Nat.le_of_ble_eq_true rfl) (fun r m hq => ?_)
  refine x_aload_n (pc := 781) dL_law_781 1 rfl rfl ?_
  refine x_aload_n (pc := 782) dL_law_782 3 rfl rfl ?_
  refine x_iload_n (pc := 783) dL_law_783 0 rfl rfl ?_
  refine x_iconst (pc := 784) (v := 1) dL_law_784 (by decide) ?_
  refine x_iadd (pc := 785) dL_law_785 ?_
  refine x_sld (pc := 786) h1 dL_law_786 ?_
  refine x_callVI (pc := 787) 327 hq ok_X7_removalRound dL_law_787 tb_981 ⟨⟨rfl, rfl⟩, ⟨Nat.le_of_ble_eq_true rfl, Nat.le_of_ble_eq_true rfl⟩, Nat.le_of_ble_eq_true rfl, Nat.le_of_ble_eq_true rfl⟩ (mK hG (by decide)) (mc_327 hG _) rfl (As := [.int (xs (nI i + 1).toNatClampNeg)]) rfl rfl (Nat.le_of_ble_eq_true rfl) (fun r' m' hq2 => ?_)
  obtain ⟨rfl, I2⟩ := hq2
  refine x_icmp_eq (pc := 790) (tgt := 1123) dL_law_790 (by decide) (fun _ => h _ I2) (fun z => absurd rfl z)
set_option maxRecDepth 100000 in
set_option maxHeartbeats 4000000 in
theorem law_survivor (hG : Mn G) (I : Inv mem) (h1 : vp_in (nI i + 1) L) (h2 : vp_in (nI i + 2) L) (h3 : vp_in (nI i + 3) L) (h : ∀ mem' : Mem, Inv mem' → XLw l nm b L xs G mem' 1123 (lvL b i G) []) : XLw l nm b L xs G mem 795 (lvL b i G) [] := by
  refine x_aload_n (pc := 795) dL_law_795 2 rfl rfl ?_
  refine x_aload_n (pc := 796) dL_law_796 3 rfl rfl ?_
  refine x_iload_n (pc := 797) dL_law_797 0 rfl rfl ?_
  refine x_iconst (pc := 798) (v := 1) dL_law_798 (by decide) ?_
  refine x_iadd (pc := 799) dL_law_799 ?_
  refine x_sld (pc := 800) h1 dL_law_800 ?_
  refine x_callVI (pc := 801) 0 (op_survivor hG I _) ok_X6_survivor dL_law_801 tb_596 ⟨⟨rfl, rfl⟩, ⟨Nat.le_of_ble_eq_true rfl, Nat.le_of_ble_eq_true rfl⟩, Nat.le_of_ble_eq_true rfl, Nat.le_of_ble_eq_true rfl⟩ (mK hG (by decide)) (mc_0 hG _) rfl (As := [.int (xs (nI i + 1).toNatClampNeg)]) rfl rfl (Nat.le_of_ble_eq_true rfl) (fun r m hq => ?_)
  refine x_aload_n (pc := 804) dL_law_804 1 rfl rfl ?_
  refine x_aload_n (pc := 805) dL_law_805 3 rfl rfl ?_
  refine x_iload_n (pc := 806) dL_law_806 0 rfl rfl ?_
  refine x_iconst (pc := 807) (v := 1) dL_law_807 (by decide) ?_
  refine x_iadd (pc := 808) dL_law_808 ?_
  refine x_sld (pc := 809) h1 dL_law_809 ?_
  refine x_callVI (pc := 810) 327 hq ok_X7_survivor dL_law_810 tb_985 ⟨⟨rfl, rfl⟩, ⟨Nat.le_of_ble_eq_true rfl, Nat.le_of_ble_eq_true rfl⟩, Nat.le_of_ble_eq_true rfl, Nat.le_of_ble_eq_true rfl⟩ (mK hG (by decide)) (mc_327 hG _) rfl (As := [.int (xs (nI i + 1).toNatClampNeg)]) rfl rfl (Nat.le_of_ble_eq_true rfl) (fun r' m' hq2 => ?_)
  obtain ⟨rfl, I2⟩ := hq2
  refine x_icmp_eq (pc := 813) (tgt := 1123) dL_law_813 (by decide) (fun _ => h _ I2) (fun z => absurd rfl z)
set_option maxRecDepth 100000 in
set_option maxHeartbeats 4000000 in
theorem law_balancedCut (hG : Mn G) (I : Inv mem) (h1 : vp_in (nI i + 1) L) (h2 : vp_in (nI i + 2) L) (h3 : vp_in (nI i + 3) L) (h : ∀ mem' : Mem, Inv mem' → XLw l nm b L xs G mem' 1123 (lvL b i G) []) : XLw l nm b L xs G mem 818 (lvL b i G) [] := by
  refine x_aload_n (pc := 818) dL_law_818 2 rfl rfl ?_
  refine x_aload_n (pc := 819) dL_law_819 3 rfl rfl ?_
  refine x_iload_n (pc := 820) dL_law_820 0 rfl rfl ?_
  refine x_iconst (pc := 821) (v := 1) dL_law_821 (by decide) ?_
  refine x_iadd (pc := 822) dL_law_822 ?_
  refine x_sld (pc := 823) h1 dL_law_823 ?_
  refine x_callVI (pc := 824) 0 (op_balancedCut hG I _) ok_X6_balancedCut dL_law_824 tb_604 ⟨⟨rfl, rfl⟩, ⟨Nat.le_of_ble_eq_true rfl, Nat.le_of_ble_eq_true rfl⟩, Nat.le_of_ble_eq_true rfl, Nat.le_of_ble_eq_true rfl⟩ (mK hG (by decide)) (mc_0 hG _) rfl (As := [.int (xs (nI i + 1).toNatClampNeg)]) rfl rfl (Nat.le_of_ble_eq_true rfl) (fun r m hq => ?_)
  refine x_aload_n (pc := 827) dL_law_827 1 rfl rfl ?_
  refine x_aload_n (pc := 828) dL_law_828 3 rfl rfl ?_
  refine x_iload_n (pc := 829) dL_law_829 0 rfl rfl ?_
  refine x_iconst (pc := 830) (v := 1) dL_law_830 (by decide) ?_
  refine x_iadd (pc := 831) dL_law_831 ?_
  refine x_sld (pc := 832) h1 dL_law_832 ?_
  refine x_callVI (pc := 833) 327 hq ok_X7_balancedCut dL_law_833 tb_989 ⟨⟨rfl, rfl⟩, ⟨Nat.le_of_ble_eq_true rfl, Nat.le_of_ble_eq_true rfl⟩, Nat.le_of_ble_eq_true rfl, Nat.le_of_ble_eq_true rfl⟩ (mK hG (by decide)) (mc_327 hG _) rfl (As := [.int (xs (nI i + 1).toNatClampNeg)]) rfl rfl (Nat.le_of_ble_eq_true rfl) (fun r' m' hq2 => ?_)
  obtain ⟨rfl, I2⟩ := hq2
  refine x_icmp_eq (pc := 836) (tgt := 1123) dL_law_836 (by decide) (fun _ => h _ I2) (fun z => absurd rfl z)
set_option maxRecDepth 100000 in
set_option maxHeartbeats 4000000 in
theorem law_expectedReach (hG : Mn G) (I : Inv mem) (h1 : vp_in (nI i + 1) L) (h2 : vp_in (nI i + 2) L) (h3 : vp_in (nI i + 3) L) (h : ∀ mem' : Mem, Inv mem' → XLw l nm b L xs G mem' 1123 (lvL b i G) []) : XLw l nm b L xs G mem 841 (lvL b i G) [] := by
  refine x_aload_n (pc := 841) dL_law_841 2 rfl rfl ?_
  refine x_aload_n (pc := 842) dL_law_842 3 rfl rfl ?_
  refine x_iload_n (pc := 843) dL_law_843 0 rfl rfl ?_
  refine x_iconst (pc := 844) (v := 1) dL_law_844 (by decide) ?_
  refine x_iadd (pc := 845) dL_law_845 ?_
  refine x_sld (pc := 846) h1 dL_law_846 ?_
  refine x_aload_n (pc := 847) dL_law_847 3 rfl rfl ?_
  refine x_iload_n (pc := 848) dL_law_848 0 rfl rfl ?_
  refine x_iconst (pc := 849) (v := 2) dL_law_849 (by decide) ?_
  refine x_iadd (pc := 850) dL_law_850 ?_
  refine x_sld (pc := 851) h2 dL_law_851 ?_
  refine x_callVL (pc := 852) 0 (op_expectedReach hG I _ _) ok_X6_expectedReach dL_law_852 tb_617 ⟨⟨rfl, rfl⟩, ⟨Nat.le_of_ble_eq_true rfl, Nat.le_of_ble_eq_true rfl⟩, Nat.le_of_ble_eq_true rfl, Nat.le_of_ble_eq_true rfl⟩ (mK hG (by decide)) (mc_0 hG _) rfl (As := [.int (xs (nI i + 1).toNatClampNeg), .int (xs (nI i + 2).toNatClampNeg)]) rfl rfl (Nat.le_of_ble_eq_true rfl) (fun r m hq => ?_)
  refine x_aload_n (pc := 855) dL_law_855 1 rfl rfl ?_
  refine x_aload_n (pc := 856) dL_law_856 3 rfl rfl ?_
  refine x_iload_n (pc := 857) dL_law_857 0 rfl rfl ?_
  refine x_iconst (pc := 858) (v := 1) dL_law_858 (by decide) ?_
  refine x_iadd (pc := 859) dL_law_859 ?_
  refine x_sld (pc := 860) h1 dL_law_860 ?_
  refine x_aload_n (pc := 861) dL_law_861 3 rfl rfl ?_
  refine x_iload_n (pc := 862) dL_law_862 0 rfl rfl ?_
  refine x_iconst (pc := 863) (v := 2) dL_law_863 (by decide) ?_
  refine x_iadd (pc := 864) dL_law_864 ?_
  refine x_sld (pc := 865) h2 dL_law_865 ?_
  refine x_callVL (pc := 866) 327 hq ok_X7_expectedReach dL_law_866 tb_997 ⟨⟨rfl, rfl⟩, ⟨Nat.le_of_ble_eq_true rfl, Nat.le_of_ble_eq_true rfl⟩, Nat.le_of_ble_eq_true rfl, Nat.le_of_ble_eq_true rfl⟩ (mK hG (by decide)) (mc_327 hG _) rfl (As := [.int (xs (nI i + 1).toNatClampNeg), .int (xs (nI i + 2).toNatClampNeg)]) rfl rfl (Nat.le_of_ble_eq_true rfl) (fun r' m' hq2 => ?_)
  obtain ⟨rfl, I2⟩ := hq2
  refine x_lcmp (pc := 869) dL_law_869 ?_
  refine x_if_eq (pc := 870) (tgt := 1123) dL_law_870 (by decide) (fun _ => h _ I2) (fun z => absurd (lg_self r') z)
set_option maxRecDepth 100000 in
set_option maxHeartbeats 4000000 in
theorem law_observe (hG : Mn G) (I : Inv mem) (h1 : vp_in (nI i + 1) L) (h2 : vp_in (nI i + 2) L) (h3 : vp_in (nI i + 3) L) (h : ∀ mem' : Mem, Inv mem' → XLw l nm b L xs G mem' 1123 (lvL b i G) []) : XLw l nm b L xs G mem 875 (lvL b i G) [] := by
  refine x_aload_n (pc := 875) dL_law_875 2 rfl rfl ?_
  refine x_aload_n (pc := 876) dL_law_876 3 rfl rfl ?_
  refine x_iload_n (pc := 877) dL_law_877 0 rfl rfl ?_
  refine x_iconst (pc := 878) (v := 1) dL_law_878 (by decide) ?_
  refine x_iadd (pc := 879) dL_law_879 ?_
  refine x_sld (pc := 880) h1 dL_law_880 ?_
  refine x_aload_n (pc := 881) dL_law_881 3 rfl rfl ?_
  refine x_iload_n (pc := 882) dL_law_882 0 rfl rfl ?_
  refine x_iconst (pc := 883) (v := 2) dL_law_883 (by decide) ?_
  refine x_iadd (pc := 884) dL_law_884 ?_
  refine x_sld (pc := 885) h2 dL_law_885 ?_
  refine x_aload_n (pc := 886) dL_law_886 3 rfl rfl ?_
  refine x_iload_n (pc := 887) dL_law_887 0 rfl rfl ?_
  refine x_iconst (pc := 888) (v := 3) dL_law_888 (by decide) ?_
  refine x_iadd (pc := 889) dL_law_889 ?_
  refine x_sld (pc := 890) h3 dL_law_890 ?_
  refine x_callVI (pc := 891) 0 (op_observe hG I _ _ _) ok_X6_observe dL_law_891 tb_633 ⟨⟨rfl, rfl⟩, ⟨Nat.le_of_ble_eq_true rfl, Nat.le_of_ble_eq_true rfl⟩, Nat.le_of_ble_eq_true rfl, Nat.le_of_ble_eq_true rfl⟩ (mK hG (by decide)) (mc_0 hG _) rfl (As := [.int (xs (nI i + 1).toNatClampNeg), .int (xs (nI i + 2).toNatClampNeg), .int (xs (nI i + 3).toNatClampNeg)]) rfl rfl (Nat.le_of_ble_eq_true rfl) (fun r m hq => ?_)
  refine x_aload_n (pc := 894) dL_law_894 1 rfl rfl ?_
  refine x_aload_n (pc := 895) dL_law_895 3 rfl rfl ?_
  refine x_iload_n (pc := 896) dL_law_896 0 rfl rfl ?_
  refine x_iconst (pc := 897) (v := 1) dL_law_897 (by decide) ?_
  refine x_iadd (pc := 898) dL_law_898 ?_
  refine x_sld (pc := 899) h1 dL_law_899 ?_
  refine x_aload_n (pc := 900) dL_law_900 3 rfl rfl ?_
  refine x_iload_n (pc := 901) dL_law_901 0 rfl rfl ?_
  refine x_iconst (pc := 902) (v := 2) dL_law_902 (by decide) ?_
  refine x_iadd (pc := 903) dL_law_903 ?_
  refine x_sld (pc := 904) h2 dL_law_904 ?_
  refine x_aload_n (pc := 905) dL_law_905 3 rfl rfl ?_
  refine x_iload_n (pc := 906) dL_law_906 0 rfl rfl ?_
  refine x_iconst (pc := 907) (v := 3) dL_law_907 (by decide) ?_
  refine x_iadd (pc := 908) dL_law_908 ?_
  refine x_sld (pc := 909) h3 dL_law_909 ?_
  refine x_callVI (pc := 910) 327 hq ok_X7_observe dL_law_910 tb_1004 ⟨⟨rfl, rfl⟩, ⟨Nat.le_of_ble_eq_true rfl, Nat.le_of_ble_eq_true rfl⟩, Nat.le_of_ble_eq_true rfl, Nat.le_of_ble_eq_true rfl⟩ (mK hG (by decide)) (mc_327 hG _) rfl (As := [.int (xs (nI i + 1).toNatClampNeg), .int (xs (nI i + 2).toNatClampNeg), .int (xs (nI i + 3).toNatClampNeg)]) rfl rfl (Nat.le_of_ble_eq_true rfl) (fun r' m' hq2 => ?_)
  obtain ⟨rfl, I2⟩ := hq2
  refine x_icmp_eq (pc := 913) (tgt := 1123) dL_law_913 (by decide) (fun _ => h _ I2) (fun z => absurd rfl z)
set_option maxRecDepth 100000 in
set_option maxHeartbeats 4000000 in
theorem law_possibleWeights (hG : Mn G) (I : Inv mem) (h1 : vp_in (nI i + 1) L) (h2 : vp_in (nI i + 2) L) (h3 : vp_in (nI i + 3) L) (h : ∀ mem' : Mem, Inv mem' → XLw l nm b L xs G mem' 1123 (lvL b i G) []) : XLw l nm b L xs G mem 918 (lvL b i G) [] := by
  refine x_aload_n (pc := 918) dL_law_918 2 rfl rfl ?_
  refine x_aload_n (pc := 919) dL_law_919 3 rfl rfl ?_
  refine x_iload_n (pc := 920) dL_law_920 0 rfl rfl ?_
  refine x_iconst (pc := 921) (v := 1) dL_law_921 (by decide) ?_
  refine x_iadd (pc := 922) dL_law_922 ?_
  refine x_sld (pc := 923) h1 dL_law_923 ?_
  refine x_aload_n (pc := 924) dL_law_924 3 rfl rfl ?_
  refine x_iload_n (pc := 925) dL_law_925 0 rfl rfl ?_
  refine x_iconst (pc := 926) (v := 2) dL_law_926 (by decide) ?_
  refine x_iadd (pc := 927) dL_law_927 ?_
  refine x_sld (pc := 928) h2 dL_law_928 ?_
  refine x_callVI (pc := 929) 0 (op_possibleWeights hG I _ _) ok_X6_possibleWeights dL_law_929 tb_642 ⟨⟨rfl, rfl⟩, ⟨Nat.le_of_ble_eq_true rfl, Nat.le_of_ble_eq_true rfl⟩, Nat.le_of_ble_eq_true rfl, Nat.le_of_ble_eq_true rfl⟩ (mK hG (by decide)) (mc_0 hG _) rfl (As := [.int (xs (nI i + 1).toNatClampNeg), .int (xs (nI i + 2).toNatClampNeg)]) rfl rfl (Nat.le_of_ble_eq_true rfl) (fun r m hq => ?_)
  refine x_aload_n (pc := 932) dL_law_932 1 rfl rfl ?_
  refine x_aload_n (pc := 933) dL_law_933 3 rfl rfl ?_
  refine x_iload_n (pc := 934) dL_law_934 0 rfl rfl ?_
  refine x_iconst (pc := 935) (v := 1) dL_law_935 (by decide) ?_
  refine x_iadd (pc := 936) dL_law_936 ?_
  refine x_sld (pc := 937) h1 dL_law_937 ?_
  refine x_aload_n (pc := 938) dL_law_938 3 rfl rfl ?_
  refine x_iload_n (pc := 939) dL_law_939 0 rfl rfl ?_
  refine x_iconst (pc := 940) (v := 2) dL_law_940 (by decide) ?_
  refine x_iadd (pc := 941) dL_law_941 ?_
  refine x_sld (pc := 942) h2 dL_law_942 ?_
  refine x_callVI (pc := 943) 327 hq ok_X7_possibleWeights dL_law_943 tb_1010 ⟨⟨rfl, rfl⟩, ⟨Nat.le_of_ble_eq_true rfl, Nat.le_of_ble_eq_true rfl⟩, Nat.le_of_ble_eq_true rfl, Nat.le_of_ble_eq_true rfl⟩ (mK hG (by decide)) (mc_327 hG _) rfl (As := [.int (xs (nI i + 1).toNatClampNeg), .int (xs (nI i + 2).toNatClampNeg)]) rfl rfl (Nat.le_of_ble_eq_true rfl) (fun r' m' hq2 => ?_)
  obtain ⟨rfl, I2⟩ := hq2
  refine x_icmp_eq (pc := 946) (tgt := 1123) dL_law_946 (by decide) (fun _ => h _ I2) (fun z => absurd rfl z)
set_option maxRecDepth 100000 in
set_option maxHeartbeats 4000000 in
theorem law_runScript (hG : Mn G) (I : Inv mem) (h1 : vp_in (nI i + 1) L) (h2 : vp_in (nI i + 2) L) (h3 : vp_in (nI i + 3) L) (h : ∀ mem' : Mem, Inv mem' → XLw l nm b L xs G mem' 1123 (lvL b i G) []) : XLw l nm b L xs G mem 951 (lvL b i G) [] := by
  refine x_aload_n (pc := 951) dL_law_951 2 rfl rfl ?_
  refine x_aload_n (pc := 952) dL_law_952 3 rfl rfl ?_
  refine x_iload_n (pc := 953) dL_law_953 0 rfl rfl ?_
  refine x_iconst (pc := 954) (v := 1) dL_law_954 (by decide) ?_
  refine x_iadd (pc := 955) dL_law_955 ?_
  refine x_sld (pc := 956) h1 dL_law_956 ?_
  refine x_aload_n (pc := 957) dL_law_957 3 rfl rfl ?_
  refine x_iload_n (pc := 958) dL_law_958 0 rfl rfl ?_
  refine x_iconst (pc := 959) (v := 2) dL_law_959 (by decide) ?_
  refine x_iadd (pc := 960) dL_law_960 ?_
  refine x_sld (pc := 961) h2 dL_law_961 ?_
  refine x_i2l (pc := 962) dL_law_962 ?_
  refine x_bipush (pc := 963) (v := 32) dL_law_963 (by decide) ?_
  refine x_lshl (pc := 965) dL_law_965 ?_
  refine x_aload_n (pc := 966) dL_law_966 3 rfl rfl ?_
  refine x_iload_n (pc := 967) dL_law_967 0 rfl rfl ?_
  refine x_iconst (pc := 968) (v := 3) dL_law_968 (by decide) ?_
  refine x_iadd (pc := 969) dL_law_969 ?_
  refine x_sld (pc := 970) h3 dL_law_970 ?_
  refine x_i2l (pc := 971) dL_law_971 ?_
  refine x_ldc2 (pc := 972) dL_law_972 tb_1046 ?_
  refine x_land (pc := 975) dL_law_975 ?_
  refine x_lor (pc := 976) dL_law_976 ?_
  refine x_callVI (pc := 977) 0 (op_runScript hG I _ _) ok_X6_runScript dL_law_977 tb_661 ⟨⟨rfl, rfl⟩, ⟨Nat.le_of_ble_eq_true rfl, Nat.le_of_ble_eq_true rfl⟩, Nat.le_of_ble_eq_true rfl, Nat.le_of_ble_eq_true rfl⟩ (mK hG (by decide)) (mc_0 hG _) rfl (As := [.int (xs (nI i + 1).toNatClampNeg), .long _]) rfl rfl (Nat.le_of_ble_eq_true rfl) (fun r m hq => ?_)
  refine x_aload_n (pc := 980) dL_law_980 1 rfl rfl ?_
  refine x_aload_n (pc := 981) dL_law_981 3 rfl rfl ?_
  refine x_iload_n (pc := 982) dL_law_982 0 rfl rfl ?_
  refine x_iconst (pc := 983) (v := 1) dL_law_983 (by decide) ?_
  refine x_iadd (pc := 984) dL_law_984 ?_
  refine x_sld (pc := 985) h1 dL_law_985 ?_
  refine x_aload_n (pc := 986) dL_law_986 3 rfl rfl ?_
  refine x_iload_n (pc := 987) dL_law_987 0 rfl rfl ?_
  refine x_iconst (pc := 988) (v := 2) dL_law_988 (by decide) ?_
  refine x_iadd (pc := 989) dL_law_989 ?_
  refine x_sld (pc := 990) h2 dL_law_990 ?_
  refine x_i2l (pc := 991) dL_law_991 ?_
  refine x_bipush (pc := 992) (v := 32) dL_law_992 (by decide) ?_
  refine x_lshl (pc := 994) dL_law_994 ?_
  refine x_aload_n (pc := 995) dL_law_995 3 rfl rfl ?_
  refine x_iload_n (pc := 996) dL_law_996 0 rfl rfl ?_
  refine x_iconst (pc := 997) (v := 3) dL_law_997 (by decide) ?_
  refine x_iadd (pc := 998) dL_law_998 ?_
  refine x_sld (pc := 999) h3 dL_law_999 ?_
  refine x_i2l (pc := 1000) dL_law_1000 ?_
  refine x_ldc2 (pc := 1001) dL_law_1001 tb_1046 ?_
  refine x_land (pc := 1004) dL_law_1004 ?_
  refine x_lor (pc := 1005) dL_law_1005 ?_
  refine x_callVI (pc := 1006) 327 hq ok_X7_runScript dL_law_1006 tb_1018 ⟨⟨rfl, rfl⟩, ⟨Nat.le_of_ble_eq_true rfl, Nat.le_of_ble_eq_true rfl⟩, Nat.le_of_ble_eq_true rfl, Nat.le_of_ble_eq_true rfl⟩ (mK hG (by decide)) (mc_327 hG _) rfl (As := [.int (xs (nI i + 1).toNatClampNeg), .long _]) rfl rfl (Nat.le_of_ble_eq_true rfl) (fun r' m' hq2 => ?_)
  obtain ⟨rfl, I2⟩ := hq2
  refine x_icmp_eq (pc := 1009) (tgt := 1123) dL_law_1009 (by decide) (fun _ => h _ I2) (fun z => absurd rfl z)
set_option maxRecDepth 100000 in
set_option maxHeartbeats 4000000 in
theorem law_randomChanges (hG : Mn G) (I : Inv mem) (h1 : vp_in (nI i + 1) L) (h2 : vp_in (nI i + 2) L) (h3 : vp_in (nI i + 3) L) (h : ∀ mem' : Mem, Inv mem' → XLw l nm b L xs G mem' 1123 (lvL b i G) []) : XLw l nm b L xs G mem 1014 (lvL b i G) [] := by
  refine x_aload_n (pc := 1014) dL_law_1014 2 rfl rfl ?_
  refine x_aload_n (pc := 1015) dL_law_1015 3 rfl rfl ?_
  refine x_iload_n (pc := 1016) dL_law_1016 0 rfl rfl ?_
  refine x_iconst (pc := 1017) (v := 1) dL_law_1017 (by decide) ?_
  refine x_iadd (pc := 1018) dL_law_1018 ?_
  refine x_sld (pc := 1019) h1 dL_law_1019 ?_
  refine x_i2l (pc := 1020) dL_law_1020 ?_
  refine x_bipush (pc := 1021) (v := 32) dL_law_1021 (by decide) ?_
  refine x_lshl (pc := 1023) dL_law_1023 ?_
  refine x_aload_n (pc := 1024) dL_law_1024 3 rfl rfl ?_
  refine x_iload_n (pc := 1025) dL_law_1025 0 rfl rfl ?_
  refine x_iconst (pc := 1026) (v := 2) dL_law_1026 (by decide) ?_
  refine x_iadd (pc := 1027) dL_law_1027 ?_
  refine x_sld (pc := 1028) h2 dL_law_1028 ?_
  refine x_i2l (pc := 1029) dL_law_1029 ?_
  refine x_ldc2 (pc := 1030) dL_law_1030 tb_1046 ?_
  refine x_land (pc := 1033) dL_law_1033 ?_
  refine x_lor (pc := 1034) dL_law_1034 ?_
  refine x_aload_n (pc := 1035) dL_law_1035 3 rfl rfl ?_
  refine x_iload_n (pc := 1036) dL_law_1036 0 rfl rfl ?_
  refine x_iconst (pc := 1037) (v := 3) dL_law_1037 (by decide) ?_
  refine x_iadd (pc := 1038) dL_law_1038 ?_
  refine x_sld (pc := 1039) h3 dL_law_1039 ?_
  refine x_callVI (pc := 1040) 0 (op_randomChanges hG I _ _) ok_X6_randomChanges dL_law_1040 tb_686 ⟨⟨rfl, rfl⟩, ⟨Nat.le_of_ble_eq_true rfl, Nat.le_of_ble_eq_true rfl⟩, Nat.le_of_ble_eq_true rfl, Nat.le_of_ble_eq_true rfl⟩ (mK hG (by decide)) (mc_0 hG _) rfl (As := [.long _, .int (xs (nI i + 3).toNatClampNeg)]) rfl rfl (Nat.le_of_ble_eq_true rfl) (fun r m hq => ?_)
  refine x_aload_n (pc := 1043) dL_law_1043 1 rfl rfl ?_
  refine x_aload_n (pc := 1044) dL_law_1044 3 rfl rfl ?_
  refine x_iload_n (pc := 1045) dL_law_1045 0 rfl rfl ?_
  refine x_iconst (pc := 1046) (v := 1) dL_law_1046 (by decide) ?_
  refine x_iadd (pc := 1047) dL_law_1047 ?_
  refine x_sld (pc := 1048) h1 dL_law_1048 ?_
  refine x_i2l (pc := 1049) dL_law_1049 ?_
  refine x_bipush (pc := 1050) (v := 32) dL_law_1050 (by decide) ?_
  refine x_lshl (pc := 1052) dL_law_1052 ?_
  refine x_aload_n (pc := 1053) dL_law_1053 3 rfl rfl ?_
  refine x_iload_n (pc := 1054) dL_law_1054 0 rfl rfl ?_
  refine x_iconst (pc := 1055) (v := 2) dL_law_1055 (by decide) ?_
  refine x_iadd (pc := 1056) dL_law_1056 ?_
  refine x_sld (pc := 1057) h2 dL_law_1057 ?_
  refine x_i2l (pc := 1058) dL_law_1058 ?_
  refine x_ldc2 (pc := 1059) dL_law_1059 tb_1046 ?_
  refine x_land (pc := 1062) dL_law_1062 ?_
  refine x_lor (pc := 1063) dL_law_1063 ?_
  refine x_aload_n (pc := 1064) dL_law_1064 3 rfl rfl ?_
  refine x_iload_n (pc := 1065) dL_law_1065 0 rfl rfl ?_
  refine x_iconst (pc := 1066) (v := 3) dL_law_1066 (by decide) ?_
  refine x_iadd (pc := 1067) dL_law_1067 ?_
  refine x_sld (pc := 1068) h3 dL_law_1068 ?_
  refine x_callVI (pc := 1069) 327 hq ok_X7_randomChanges dL_law_1069 tb_1031 ⟨⟨rfl, rfl⟩, ⟨Nat.le_of_ble_eq_true rfl, Nat.le_of_ble_eq_true rfl⟩, Nat.le_of_ble_eq_true rfl, Nat.le_of_ble_eq_true rfl⟩ (mK hG (by decide)) (mc_327 hG _) rfl (As := [.long _, .int (xs (nI i + 3).toNatClampNeg)]) rfl rfl (Nat.le_of_ble_eq_true rfl) (fun r' m' hq2 => ?_)
  obtain ⟨rfl, I2⟩ := hq2
  refine x_icmp_eq (pc := 1072) (tgt := 1123) dL_law_1072 (by decide) (fun _ => h _ I2) (fun z => absurd rfl z)
set_option maxRecDepth 100000 in
set_option maxHeartbeats 4000000 in
theorem law_save (hG : Mn G) (I : Inv mem) (h1 : vp_in (nI i + 1) L) (h2 : vp_in (nI i + 2) L) (h3 : vp_in (nI i + 3) L) (h : ∀ mem' : Mem, Inv mem' → XLw l nm b L xs G mem' 1123 (lvL b i G) []) : XLw l nm b L xs G mem 1077 (lvL b i G) [] := by
  refine x_aload_n (pc := 1077) dL_law_1077 2 rfl rfl ?_
  refine x_aload_n (pc := 1078) dL_law_1078 3 rfl rfl ?_
  refine x_iload_n (pc := 1079) dL_law_1079 0 rfl rfl ?_
  refine x_iconst (pc := 1080) (v := 1) dL_law_1080 (by decide) ?_
  refine x_iadd (pc := 1081) dL_law_1081 ?_
  refine x_sld (pc := 1082) h1 dL_law_1082 ?_
  refine x_callVI (pc := 1083) 0 (op_save hG I _) ok_X6_save dL_law_1083 tb_697 ⟨⟨rfl, rfl⟩, ⟨Nat.le_of_ble_eq_true rfl, Nat.le_of_ble_eq_true rfl⟩, Nat.le_of_ble_eq_true rfl, Nat.le_of_ble_eq_true rfl⟩ (mK hG (by decide)) (mc_0 hG _) rfl (As := [.int (xs (nI i + 1).toNatClampNeg)]) rfl rfl (Nat.le_of_ble_eq_true rfl) (fun r m hq => ?_)
  refine x_aload_n (pc := 1086) dL_law_1086 1 rfl rfl ?_
  refine x_aload_n (pc := 1087) dL_law_1087 3 rfl rfl ?_
  refine x_iload_n (pc := 1088) dL_law_1088 0 rfl rfl ?_
  refine x_iconst (pc := 1089) (v := 1) dL_law_1089 (by decide) ?_
  refine x_iadd (pc := 1090) dL_law_1090 ?_
  refine x_sld (pc := 1091) h1 dL_law_1091 ?_
  refine x_callVI (pc := 1092) 327 hq ok_X7_save dL_law_1092 tb_1038 ⟨⟨rfl, rfl⟩, ⟨Nat.le_of_ble_eq_true rfl, Nat.le_of_ble_eq_true rfl⟩, Nat.le_of_ble_eq_true rfl, Nat.le_of_ble_eq_true rfl⟩ (mK hG (by decide)) (mc_327 hG _) rfl (As := [.int (xs (nI i + 1).toNatClampNeg)]) rfl rfl (Nat.le_of_ble_eq_true rfl) (fun r' m' hq2 => ?_)
  obtain ⟨rfl, I2⟩ := hq2
  refine x_icmp_eq (pc := 1095) (tgt := 1123) dL_law_1095 (by decide) (fun _ => h _ I2) (fun z => absurd rfl z)
set_option maxRecDepth 100000 in
set_option maxHeartbeats 4000000 in
theorem law_restore (hG : Mn G) (I : Inv mem) (h1 : vp_in (nI i + 1) L) (h2 : vp_in (nI i + 2) L) (h3 : vp_in (nI i + 3) L) (h : ∀ mem' : Mem, Inv mem' → XLw l nm b L xs G mem' 1123 (lvL b i G) []) : XLw l nm b L xs G mem 1100 (lvL b i G) [] := by
  refine x_aload_n (pc := 1100) dL_law_1100 2 rfl rfl ?_
  refine x_aload_n (pc := 1101) dL_law_1101 3 rfl rfl ?_
  refine x_iload_n (pc := 1102) dL_law_1102 0 rfl rfl ?_
  refine x_iconst (pc := 1103) (v := 1) dL_law_1103 (by decide) ?_
  refine x_iadd (pc := 1104) dL_law_1104 ?_
  refine x_sld (pc := 1105) h1 dL_law_1105 ?_
  refine x_callVI (pc := 1106) 0 (op_restore hG I _) ok_X6_restore dL_law_1106 tb_701 ⟨⟨rfl, rfl⟩, ⟨Nat.le_of_ble_eq_true rfl, Nat.le_of_ble_eq_true rfl⟩, Nat.le_of_ble_eq_true rfl, Nat.le_of_ble_eq_true rfl⟩ (mK hG (by decide)) (mc_0 hG _) rfl (As := [.int (xs (nI i + 1).toNatClampNeg)]) rfl rfl (Nat.le_of_ble_eq_true rfl) (fun r m hq => ?_)
  refine x_aload_n (pc := 1109) dL_law_1109 1 rfl rfl ?_
  refine x_aload_n (pc := 1110) dL_law_1110 3 rfl rfl ?_
  refine x_iload_n (pc := 1111) dL_law_1111 0 rfl rfl ?_
  refine x_iconst (pc := 1112) (v := 1) dL_law_1112 (by decide) ?_
  refine x_iadd (pc := 1113) dL_law_1113 ?_
  refine x_sld (pc := 1114) h1 dL_law_1114 ?_
  refine x_callVI (pc := 1115) 327 hq ok_X7_restore dL_law_1115 tb_1042 ⟨⟨rfl, rfl⟩, ⟨Nat.le_of_ble_eq_true rfl, Nat.le_of_ble_eq_true rfl⟩, Nat.le_of_ble_eq_true rfl, Nat.le_of_ble_eq_true rfl⟩ (mK hG (by decide)) (mc_327 hG _) rfl (As := [.int (xs (nI i + 1).toNatClampNeg)]) rfl rfl (Nat.le_of_ble_eq_true rfl) (fun r' m' hq2 => ?_)
  obtain ⟨rfl, I2⟩ := hq2
  refine x_icmp_eq (pc := 1118) (tgt := 1123) dL_law_1118 (by decide) (fun _ => h _ I2) (fun z => absurd rfl z)
set_option maxRecDepth 100000 in
set_option maxHeartbeats 4000000 in
theorem law_end (hL : L ≤ 2048) (hG : Mn G) (q : L < i + 4) (hi : i ≤ L + 4) : XLw l nm b L xs G mem 18 (lvL b i G) [] := by
  have e4 : (Int32.ofNat L - 4).toInt = (L : Int) - 4 := by
    rw [show Int32.ofNat L = nI L from rfl, i_sub (by rw [i_nI (by omega)]; show _ ≤ _ - (4 : Int); omega) (by rw [i_nI (by omega)]; show _ - (4 : Int) < _; omega), i_nI (by omega)]; rfl
  refine x_iload_n (pc := 18) dL_law_18 0 rfl rfl ?_
  refine x_aload_n (pc := 19) dL_law_19 3 rfl rfl ?_
  refine x_slen (pc := 20) dL_law_20 ?_
  refine x_iconst (pc := 21) (v := 4) dL_law_21 (by decide) ?_
  refine x_isub (pc := 22) dL_law_22 ?_
  refine x_icmp_gt (pc := 23) (tgt := 1129) dL_law_23 (by decide) (fun _ => ?_) (fun z => absurd (by rw [i_lt, e4, i_nI (by omega)]; omega) z)
  refine x_iconst (pc := 1129) (v := 1) dL_law_1129 (by decide) ?_
  exact x_lend dL_law_1130
set_option maxRecDepth 100000 in
set_option maxHeartbeats 4000000 in
theorem law_step (hL : L ≤ 2048) (hG : Mn G) (q : i + 4 ≤ L) (I : Inv mem) (kk : ∀ mem' : Mem, Inv mem' → XLw l nm b L xs G mem' 18 (lvL b (i + 4) G) []) : XLw l nm b L xs G mem 18 (lvL b i G) [] := by
  have e4 : (Int32.ofNat L - 4).toInt = (L : Int) - 4 := by
    rw [show Int32.ofNat L = nI L from rfl, i_sub (by rw [i_nI (by omega)]; show _ ≤ _ - (4 : Int); omega) (by rw [i_nI (by omega)]; show _ - (4 : Int) < _; omega), i_nI (by omega)]; rfl
  have h1 : vp_in (nI i + 1) L := by rw [show nI i + 1 = nI (i + 1) from nI_add i 1]; exact i_in (by omega) (by omega)
  have h2 : vp_in (nI i + 2) L := by rw [show nI i + 2 = nI (i + 2) from nI_add i 2]; exact i_in (by omega) (by omega)
  have h3 : vp_in (nI i + 3) L := by rw [show nI i + 3 = nI (i + 3) from nI_add i 3]; exact i_in (by omega) (by omega)
  have h : ∀ mem' : Mem, Inv mem' → XLw l nm b L xs G mem' 1123 (lvL b i G) [] := by
    intro mem' I'
    refine x_iinc (pc := 1123) (k := 0) (v := nI (i + 4)) (lv' := lvL b (i + 4) G) dL_law_1123 rfl (nI_add i 4) (by decide) rfl ?_
    refine x_goto (pc := 1126) (tgt := 18) dL_law_1126 (by decide) ?_
    exact kk mem' I'
  refine x_iload_n (pc := 18) dL_law_18 0 rfl rfl ?_
  refine x_aload_n (pc := 19) dL_law_19 3 rfl rfl ?_
  refine x_slen (pc := 20) dL_law_20 ?_
  refine x_iconst (pc := 21) (v := 4) dL_law_21 (by decide) ?_
  refine x_isub (pc := 22) dL_law_22 ?_
  refine x_icmp_gt (pc := 23) (tgt := 1129) dL_law_23 (by decide) (fun z => ?_) (fun _ => ?_)
  · rw [i_lt, e4, i_nI (by omega)] at z
    omega
  refine x_aload_n (pc := 26) dL_law_26 3 rfl rfl ?_
  refine x_iload_n (pc := 27) dL_law_27 0 rfl rfl ?_
  refine x_sld (pc := 28) (i_in (by omega) (by omega)) dL_law_28 ?_
  refine x_bipush (pc := 29) (v := 31) dL_law_29 (by decide) ?_
  refine x_iand (pc := 31) dL_law_31 ?_
  generalize xs (nI i).toNatClampNeg = y
  have hb := and31 y
  generalize y &&& 31 = t at hb
  have cs : t.toInt = 0 ∨ t.toInt = 1 ∨ t.toInt = 2 ∨ t.toInt = 3 ∨ t.toInt = 4 ∨ t.toInt = 5 ∨ t.toInt = 6 ∨ t.toInt = 7 ∨ t.toInt = 8 ∨ t.toInt = 9 ∨ t.toInt = 10 ∨ t.toInt = 11 ∨ t.toInt = 12 ∨ t.toInt = 13 ∨ t.toInt = 14 ∨ t.toInt = 15 ∨ t.toInt = 16 ∨ t.toInt = 17 ∨ t.toInt = 18 ∨ t.toInt = 19 ∨ t.toInt = 20 ∨ t.toInt = 21 ∨ t.toInt = 22 ∨ t.toInt = 23 ∨ t.toInt = 24 ∨ t.toInt = 25 ∨ t.toInt = 26 ∨ t.toInt = 27 ∨ t.toInt = 28 ∨ t.toInt = 29 ∨ t.toInt = 30 ∨ t.toInt = 31 := by omega
  rcases cs with hk | hk | hk | hk | hk | hk | hk | hk | hk | hk | hk | hk | hk | hk | hk | hk | hk | hk | hk | hk | hk | hk | hk | hk | hk | hk | hk | hk | hk | hk | hk | hk
  · exact x_tableIn (pc := 32) (tgt := 176) dL_law_32 (by omega) (by omega) (by rw [hk]; rfl) (by decide) (law_append hG I h1 h2 h3 h)
  · exact x_tableIn (pc := 32) (tgt := 199) dL_law_32 (by omega) (by omega) (by rw [hk]; rfl) (by decide) (law_clearText hG I h1 h2 h3 h)
  · exact x_tableIn (pc := 32) (tgt := 212) dL_law_32 (by omega) (by omega) (by rw [hk]; rfl) (by decide) (law_errorPosition hG I h1 h2 h3 h)
  · exact x_tableIn (pc := 32) (tgt := 225) dL_law_32 (by omega) (by omega) (by rw [hk]; rfl) (by decide) (law_load hG I h1 h2 h3 h)
  · exact x_tableIn (pc := 32) (tgt := 238) dL_law_32 (by omega) (by omega) (by rw [hk]; rfl) (by decide) (law_vertexWeight hG I h1 h2 h3 h)
  · exact x_tableIn (pc := 32) (tgt := 261) dL_law_32 (by omega) (by omega) (by rw [hk]; rfl) (by decide) (law_edgeWeight hG I h1 h2 h3 h)
  · exact x_tableIn (pc := 32) (tgt := 294) dL_law_32 (by omega) (by omega) (by rw [hk]; rfl) (by decide) (law_treeOf hG I h1 h2 h3 h)
  · exact x_tableIn (pc := 32) (tgt := 317) dL_law_32 (by omega) (by omega) (by rw [hk]; rfl) (by decide) (law_link hG I h1 h2 h3 h)
  · exact x_tableIn (pc := 32) (tgt := 360) dL_law_32 (by omega) (by omega) (by rw [hk]; rfl) (by decide) (law_cut hG I h1 h2 h3 h)
  · exact x_tableIn (pc := 32) (tgt := 393) dL_law_32 (by omega) (by omega) (by rw [hk]; rfl) (by decide) (law_setEdgeWeight hG I h1 h2 h3 h)
  · exact x_tableIn (pc := 32) (tgt := 436) dL_law_32 (by omega) (by omega) (by rw [hk]; rfl) (by decide) (law_setVertexWeight hG I h1 h2 h3 h)
  · exact x_tableIn (pc := 32) (tgt := 469) dL_law_32 (by omega) (by omega) (by rw [hk]; rfl) (by decide) (law_undo hG I h1 h2 h3 h)
  · exact x_tableIn (pc := 32) (tgt := 482) dL_law_32 (by omega) (by omega) (by rw [hk]; rfl) (by decide) (law_distance hG I h1 h2 h3 h)
  · exact x_tableIn (pc := 32) (tgt := 515) dL_law_32 (by omega) (by omega) (by rw [hk]; rfl) (by decide) (law_pathVertex hG I h1 h2 h3 h)
  · exact x_tableIn (pc := 32) (tgt := 558) dL_law_32 (by omega) (by omega) (by rw [hk]; rfl) (by decide) (law_eccentricity hG I h1 h2 h3 h)
  · exact x_tableIn (pc := 32) (tgt := 581) dL_law_32 (by omega) (by omega) (by rw [hk]; rfl) (by decide) (law_diameter hG I h1 h2 h3 h)
  · exact x_tableIn (pc := 32) (tgt := 604) dL_law_32 (by omega) (by omega) (by rw [hk]; rfl) (by decide) (law_diameterEnd hG I h1 h2 h3 h)
  · exact x_tableIn (pc := 32) (tgt := 637) dL_law_32 (by omega) (by omega) (by rw [hk]; rfl) (by decide) (law_centre hG I h1 h2 h3 h)
  · exact x_tableIn (pc := 32) (tgt := 660) dL_law_32 (by omega) (by omega) (by rw [hk]; rfl) (by decide) (law_median hG I h1 h2 h3 h)
  · exact x_tableIn (pc := 32) (tgt := 683) dL_law_32 (by omega) (by omega) (by rw [hk]; rfl) (by decide) (law_cost hG I h1 h2 h3 h)
  · exact x_tableIn (pc := 32) (tgt := 706) dL_law_32 (by omega) (by omega) (by rw [hk]; rfl) (by decide) (law_meeting hG I h1 h2 h3 h)
  · exact x_tableIn (pc := 32) (tgt := 749) dL_law_32 (by omega) (by omega) (by rw [hk]; rfl) (by decide) (law_rounds hG I h1 h2 h3 h)
  · exact x_tableIn (pc := 32) (tgt := 772) dL_law_32 (by omega) (by omega) (by rw [hk]; rfl) (by decide) (law_removalRound hG I h1 h2 h3 h)
  · exact x_tableIn (pc := 32) (tgt := 795) dL_law_32 (by omega) (by omega) (by rw [hk]; rfl) (by decide) (law_survivor hG I h1 h2 h3 h)
  · exact x_tableIn (pc := 32) (tgt := 818) dL_law_32 (by omega) (by omega) (by rw [hk]; rfl) (by decide) (law_balancedCut hG I h1 h2 h3 h)
  · exact x_tableIn (pc := 32) (tgt := 841) dL_law_32 (by omega) (by omega) (by rw [hk]; rfl) (by decide) (law_expectedReach hG I h1 h2 h3 h)
  · exact x_tableIn (pc := 32) (tgt := 875) dL_law_32 (by omega) (by omega) (by rw [hk]; rfl) (by decide) (law_observe hG I h1 h2 h3 h)
  · exact x_tableIn (pc := 32) (tgt := 918) dL_law_32 (by omega) (by omega) (by rw [hk]; rfl) (by decide) (law_possibleWeights hG I h1 h2 h3 h)
  · exact x_tableIn (pc := 32) (tgt := 951) dL_law_32 (by omega) (by omega) (by rw [hk]; rfl) (by decide) (law_runScript hG I h1 h2 h3 h)
  · exact x_tableIn (pc := 32) (tgt := 1014) dL_law_32 (by omega) (by omega) (by rw [hk]; rfl) (by decide) (law_randomChanges hG I h1 h2 h3 h)
  · exact x_tableIn (pc := 32) (tgt := 1077) dL_law_32 (by omega) (by omega) (by rw [hk]; rfl) (by decide) (law_save hG I h1 h2 h3 h)
  · exact x_tableIn (pc := 32) (tgt := 1100) dL_law_32 (by omega) (by omega) (by rw [hk]; rfl) (by decide) (law_restore hG I h1 h2 h3 h)
set_option maxRecDepth 100000 in
set_option maxHeartbeats 4000000 in
theorem law_loop (hL : L ≤ 2048) (hG : Mn G) : ∀ (d i : Nat) (mem : Mem), L + 4 ≤ i + d → i ≤ L + 4 → Inv mem → XLw l nm b L xs G mem 18 (lvL b i G) [] := by
  intro d
  induction d with
  | zero =>
    intro i mem hd hi I
    exact law_end hL hG (by omega) hi
  | succ d ih =>
    intro i mem hd hi I
    by_cases q : i + 4 ≤ L
    · refine law_step hL hG q I (fun mem' I' => ih (i + 4) mem' (by omega) (by omega) I')
    · exact law_end hL hG (by omega) hi
end LAW
