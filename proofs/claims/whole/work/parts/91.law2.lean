/-! THE LAW: its calls, 2 -/
section LAW
variable {l : Launch} {nm : String} {b L i : Nat} {xs : Nat → Int32} {G : Gx} {mem : Mem}
set_option maxRecDepth 100000 in
set_option maxHeartbeats 4000000 in
theorem law_vertexWeight (hG : Mn G) (I : Inv mem) (h1 : vp_in (nI i + 1) L) (h2 : vp_in (nI i + 2) L) (h3 : vp_in (nI i + 3) L) (h : ∀ mem' : Mem, Inv mem' → XLw l nm b L xs G mem' 1123 (lvL b i G) []) : XLw l nm b L xs G mem 238 (lvL b i G) [] := by
  refine x_aload_n (pc := 238) dL_law_238 2 rfl rfl ?_
  refine x_aload_n (pc := 239) dL_law_239 3 rfl rfl ?_
  refine x_iload_n (pc := 240) dL_law_240 0 rfl rfl ?_
  refine x_iconst (pc := 241) (v := 1) dL_law_241 (by decide) ?_
  refine x_iadd (pc := 242) dL_law_242 ?_
  refine x_sld (pc := 243) h1 dL_law_243 ?_
  refine x_callVI (pc := 244) 0 (op_vertexWeight hG I _) ok_X6_vertexWeight dL_law_244 tb_350 (rm_law nm ⟨⟨rfl, rfl⟩, ⟨Nat.le_of_ble_eq_true rfl, Nat.le_of_ble_eq_true rfl⟩, Nat.le_of_ble_eq_true rfl, Nat.le_of_ble_eq_true rfl⟩) (mK hG (by decide)) (mc_0 hG _) rfl (As := [.int (xs (nI i + 1).toNatClampNeg)]) rfl rfl (Nat.le_of_ble_eq_true rfl) (fun r m hq => ?_)
  refine x_aload_n (pc := 247) dL_law_247 1 rfl rfl ?_
  refine x_aload_n (pc := 248) dL_law_248 3 rfl rfl ?_
  refine x_iload_n (pc := 249) dL_law_249 0 rfl rfl ?_
  refine x_iconst (pc := 250) (v := 1) dL_law_250 (by decide) ?_
  refine x_iadd (pc := 251) dL_law_251 ?_
  refine x_sld (pc := 252) h1 dL_law_252 ?_
  refine x_callVI (pc := 253) 327 hq ok_X7_vertexWeight dL_law_253 tb_844 (rm_law nm ⟨⟨rfl, rfl⟩, ⟨Nat.le_of_ble_eq_true rfl, Nat.le_of_ble_eq_true rfl⟩, Nat.le_of_ble_eq_true rfl, Nat.le_of_ble_eq_true rfl⟩) (mK hG (by decide)) (mc_327 hG _) rfl (As := [.int (xs (nI i + 1).toNatClampNeg)]) rfl rfl (Nat.le_of_ble_eq_true rfl) (fun r' m' hq2 => ?_)
  obtain ⟨rfl, I2⟩ := hq2
  refine x_icmp_eq (pc := 256) (tgt := 1123) dL_law_256 (by decide) (fun _ => h _ I2) (fun z => absurd rfl z)
set_option maxRecDepth 100000 in
set_option maxHeartbeats 4000000 in
theorem law_edgeWeight (hG : Mn G) (I : Inv mem) (h1 : vp_in (nI i + 1) L) (h2 : vp_in (nI i + 2) L) (h3 : vp_in (nI i + 3) L) (h : ∀ mem' : Mem, Inv mem' → XLw l nm b L xs G mem' 1123 (lvL b i G) []) : XLw l nm b L xs G mem 261 (lvL b i G) [] := by
  refine x_aload_n (pc := 261) dL_law_261 2 rfl rfl ?_
  refine x_aload_n (pc := 262) dL_law_262 3 rfl rfl ?_
  refine x_iload_n (pc := 263) dL_law_263 0 rfl rfl ?_
  refine x_iconst (pc := 264) (v := 1) dL_law_264 (by decide) ?_
  refine x_iadd (pc := 265) dL_law_265 ?_
  refine x_sld (pc := 266) h1 dL_law_266 ?_
  refine x_aload_n (pc := 267) dL_law_267 3 rfl rfl ?_
  refine x_iload_n (pc := 268) dL_law_268 0 rfl rfl ?_
  refine x_iconst (pc := 269) (v := 2) dL_law_269 (by decide) ?_
  refine x_iadd (pc := 270) dL_law_270 ?_
  refine x_sld (pc := 271) h2 dL_law_271 ?_
  refine x_callVI (pc := 272) 0 (op_edgeWeight hG I _ _) ok_X6_edgeWeight dL_law_272 tb_359 (rm_law nm ⟨⟨rfl, rfl⟩, ⟨Nat.le_of_ble_eq_true rfl, Nat.le_of_ble_eq_true rfl⟩, Nat.le_of_ble_eq_true rfl, Nat.le_of_ble_eq_true rfl⟩) (mK hG (by decide)) (mc_0 hG _) rfl (As := [.int (xs (nI i + 1).toNatClampNeg), .int (xs (nI i + 2).toNatClampNeg)]) rfl rfl (Nat.le_of_ble_eq_true rfl) (fun r m hq => ?_)
  refine x_aload_n (pc := 275) dL_law_275 1 rfl rfl ?_
  refine x_aload_n (pc := 276) dL_law_276 3 rfl rfl ?_
  refine x_iload_n (pc := 277) dL_law_277 0 rfl rfl ?_
  refine x_iconst (pc := 278) (v := 1) dL_law_278 (by decide) ?_
  refine x_iadd (pc := 279) dL_law_279 ?_
  refine x_sld (pc := 280) h1 dL_law_280 ?_
  refine x_aload_n (pc := 281) dL_law_281 3 rfl rfl ?_
  refine x_iload_n (pc := 282) dL_law_282 0 rfl rfl ?_
  refine x_iconst (pc := 283) (v := 2) dL_law_283 (by decide) ?_
  refine x_iadd (pc := 284) dL_law_284 ?_
  refine x_sld (pc := 285) h2 dL_law_285 ?_
  refine x_callVI (pc := 286) 327 hq ok_X7_edgeWeight dL_law_286 tb_852 (rm_law nm ⟨⟨rfl, rfl⟩, ⟨Nat.le_of_ble_eq_true rfl, Nat.le_of_ble_eq_true rfl⟩, Nat.le_of_ble_eq_true rfl, Nat.le_of_ble_eq_true rfl⟩) (mK hG (by decide)) (mc_327 hG _) rfl (As := [.int (xs (nI i + 1).toNatClampNeg), .int (xs (nI i + 2).toNatClampNeg)]) rfl rfl (Nat.le_of_ble_eq_true rfl) (fun r' m' hq2 => ?_)
  obtain ⟨rfl, I2⟩ := hq2
  refine x_icmp_eq (pc := 289) (tgt := 1123) dL_law_289 (by decide) (fun _ => h _ I2) (fun z => absurd rfl z)
set_option maxRecDepth 100000 in
set_option maxHeartbeats 4000000 in
theorem law_treeOf (hG : Mn G) (I : Inv mem) (h1 : vp_in (nI i + 1) L) (h2 : vp_in (nI i + 2) L) (h3 : vp_in (nI i + 3) L) (h : ∀ mem' : Mem, Inv mem' → XLw l nm b L xs G mem' 1123 (lvL b i G) []) : XLw l nm b L xs G mem 294 (lvL b i G) [] := by
  refine x_aload_n (pc := 294) dL_law_294 2 rfl rfl ?_
  refine x_aload_n (pc := 295) dL_law_295 3 rfl rfl ?_
  refine x_iload_n (pc := 296) dL_law_296 0 rfl rfl ?_
  refine x_iconst (pc := 297) (v := 1) dL_law_297 (by decide) ?_
  refine x_iadd (pc := 298) dL_law_298 ?_
  refine x_sld (pc := 299) h1 dL_law_299 ?_
  refine x_callVI (pc := 300) 0 (op_treeOf hG I _) ok_X6_treeOf dL_law_300 tb_366 (rm_law nm ⟨⟨rfl, rfl⟩, ⟨Nat.le_of_ble_eq_true rfl, Nat.le_of_ble_eq_true rfl⟩, Nat.le_of_ble_eq_true rfl, Nat.le_of_ble_eq_true rfl⟩) (mK hG (by decide)) (mc_0 hG _) rfl (As := [.int (xs (nI i + 1).toNatClampNeg)]) rfl rfl (Nat.le_of_ble_eq_true rfl) (fun r m hq => ?_)
  refine x_aload_n (pc := 303) dL_law_303 1 rfl rfl ?_
  refine x_aload_n (pc := 304) dL_law_304 3 rfl rfl ?_
  refine x_iload_n (pc := 305) dL_law_305 0 rfl rfl ?_
  refine x_iconst (pc := 306) (v := 1) dL_law_306 (by decide) ?_
  refine x_iadd (pc := 307) dL_law_307 ?_
  refine x_sld (pc := 308) h1 dL_law_308 ?_
  refine x_callVI (pc := 309) 327 hq ok_X7_treeOf dL_law_309 tb_856 (rm_law nm ⟨⟨rfl, rfl⟩, ⟨Nat.le_of_ble_eq_true rfl, Nat.le_of_ble_eq_true rfl⟩, Nat.le_of_ble_eq_true rfl, Nat.le_of_ble_eq_true rfl⟩) (mK hG (by decide)) (mc_327 hG _) rfl (As := [.int (xs (nI i + 1).toNatClampNeg)]) rfl rfl (Nat.le_of_ble_eq_true rfl) (fun r' m' hq2 => ?_)
  obtain ⟨rfl, I2⟩ := hq2
  refine x_icmp_eq (pc := 312) (tgt := 1123) dL_law_312 (by decide) (fun _ => h _ I2) (fun z => absurd rfl z)
set_option maxRecDepth 100000 in
set_option maxHeartbeats 4000000 in
theorem law_link (hG : Mn G) (I : Inv mem) (h1 : vp_in (nI i + 1) L) (h2 : vp_in (nI i + 2) L) (h3 : vp_in (nI i + 3) L) (h : ∀ mem' : Mem, Inv mem' → XLw l nm b L xs G mem' 1123 (lvL b i G) []) : XLw l nm b L xs G mem 317 (lvL b i G) [] := by
  refine x_aload_n (pc := 317) dL_law_317 2 rfl rfl ?_
  refine x_aload_n (pc := 318) dL_law_318 3 rfl rfl ?_
  refine x_iload_n (pc := 319) dL_law_319 0 rfl rfl ?_
  refine x_iconst (pc := 320) (v := 1) dL_law_320 (by decide) ?_
  refine x_iadd (pc := 321) dL_law_321 ?_
  refine x_sld (pc := 322) h1 dL_law_322 ?_
  refine x_aload_n (pc := 323) dL_law_323 3 rfl rfl ?_
  refine x_iload_n (pc := 324) dL_law_324 0 rfl rfl ?_
  refine x_iconst (pc := 325) (v := 2) dL_law_325 (by decide) ?_
  refine x_iadd (pc := 326) dL_law_326 ?_
  refine x_sld (pc := 327) h2 dL_law_327 ?_
  refine x_aload_n (pc := 328) dL_law_328 3 rfl rfl ?_
  refine x_iload_n (pc := 329) dL_law_329 0 rfl rfl ?_
  refine x_iconst (pc := 330) (v := 3) dL_law_330 (by decide) ?_
  refine x_iadd (pc := 331) dL_law_331 ?_
  refine x_sld (pc := 332) h3 dL_law_332 ?_
  refine x_callVI (pc := 333) 0 (op_link hG I _ _ _) ok_X6_link dL_law_333 tb_394 (rm_law nm ⟨⟨rfl, rfl⟩, ⟨Nat.le_of_ble_eq_true rfl, Nat.le_of_ble_eq_true rfl⟩, Nat.le_of_ble_eq_true rfl, Nat.le_of_ble_eq_true rfl⟩) (mK hG (by decide)) (mc_0 hG _) rfl (As := [.int (xs (nI i + 1).toNatClampNeg), .int (xs (nI i + 2).toNatClampNeg), .int (xs (nI i + 3).toNatClampNeg)]) rfl rfl (Nat.le_of_ble_eq_true rfl) (fun r m hq => ?_)
  refine x_aload_n (pc := 336) dL_law_336 1 rfl rfl ?_
  refine x_aload_n (pc := 337) dL_law_337 3 rfl rfl ?_
  refine x_iload_n (pc := 338) dL_law_338 0 rfl rfl ?_
  refine x_iconst (pc := 339) (v := 1) dL_law_339 (by decide) ?_
  refine x_iadd (pc := 340) dL_law_340 ?_
  refine x_sld (pc := 341) h1 dL_law_341 ?_
  refine x_aload_n (pc := 342) dL_law_342 3 rfl rfl ?_
  refine x_iload_n (pc := 343) dL_law_343 0 rfl rfl ?_
  refine x_iconst (pc := 344) (v := 2) dL_law_344 (by decide) ?_
  refine x_iadd (pc := 345) dL_law_345 ?_
  refine x_sld (pc := 346) h2 dL_law_346 ?_
  refine x_aload_n (pc := 347) dL_law_347 3 rfl rfl ?_
  refine x_iload_n (pc := 348) dL_law_348 0 rfl rfl ?_
  refine x_iconst (pc := 349) (v := 3) dL_law_349 (by decide) ?_
  refine x_iadd (pc := 350) dL_law_350 ?_
  refine x_sld (pc := 351) h3 dL_law_351 ?_
  refine x_callVI (pc := 352) 327 hq ok_X7_link dL_law_352 tb_860 (rm_law nm ⟨⟨rfl, rfl⟩, ⟨Nat.le_of_ble_eq_true rfl, Nat.le_of_ble_eq_true rfl⟩, Nat.le_of_ble_eq_true rfl, Nat.le_of_ble_eq_true rfl⟩) (mK hG (by decide)) (mc_327 hG _) rfl (As := [.int (xs (nI i + 1).toNatClampNeg), .int (xs (nI i + 2).toNatClampNeg), .int (xs (nI i + 3).toNatClampNeg)]) rfl rfl (Nat.le_of_ble_eq_true rfl) (fun r' m' hq2 => ?_)
  obtain ⟨rfl, I2⟩ := hq2
  refine x_icmp_eq (pc := 355) (tgt := 1123) dL_law_355 (by decide) (fun _ => h _ I2) (fun z => absurd rfl z)
end LAW
