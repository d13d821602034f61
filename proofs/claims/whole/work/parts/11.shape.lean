/-! the cells' facts -/
def Mn (G : Gx) : Prop := gK G = 343 ∧ ∀ j, gO G j = none
def isF (f : Nat) : Bool := f == 1 || (f == 30 || (f == 296 || (f == 311 || (decide (81 ≤ f) && (decide (f < 291) && ((f - 81) % 15 == 0))))))
def Fo (G : Gx) (f : Nat) : Prop := isF f = true ∧ f + 14 < gK G ∧ ∀ i, i < 15 → gO G (f + i) = none
def Sv (G : Gx) (s : Nat) : Prop := (s = 16 ∨ s = 45) ∧ Mn G
def Ra (G : Gx) (r : Nat) : Prop := (r = 329 ∨ r = 330 ∨ r = 331) ∧ Mn G
def Ia (G : Gx) (a n : Nat) : Prop := a < gK G ∧ ∀ r, cellR G a r = rI (gC G) n r
theorem vp_lt {i : Int32} {n : Nat} (h : vp_in i n) : i.toNatClampNeg < n := Nat.not_le.mp fun q => h (Or.inr q)
theorem isF_iff {f : Nat} (hf : isF f = true) : f = 1 ∨ f = 30 ∨ f = 296 ∨ f = 311 ∨ (81 ≤ f ∧ f < 291 ∧ (f - 81) % 15 = 0) := by
  unfold isF at hf
  simpa using hf
theorem cellAt_F {cs : ClassId × ClassId × ClassId × ClassId} {ad : Nat → Nat} {f i : Nat} {r : Nat → Int32} (hf : isF f = true) (hi : i < 15) : cellAt cs ad (f + i) r = cF cs ad f i r := by
  unfold cellAt
  rcases isF_iff hf with rfl | rfl | rfl | rfl | ⟨h1, h2, h3⟩
  · rw [if_neg (by omega), if_pos (by omega), show 1 + i - 1 = i by omega]
  · rw [if_neg (by omega), if_neg (by omega), if_neg (by omega), if_pos (by omega), show 30 + i - 30 = i by omega]
  · rw [if_neg (by omega), if_neg (by omega), if_neg (by omega), if_neg (by omega), if_neg (by omega), if_neg (by omega), if_neg (by omega), if_neg (by omega), if_neg (by omega), if_pos (by omega), show 296 + 15 * ((296 + i - 296) / 15) = 296 by omega, show (296 + i - 296) % 15 = i by omega]
  · rw [if_neg (by omega), if_neg (by omega), if_neg (by omega), if_neg (by omega), if_neg (by omega), if_neg (by omega), if_neg (by omega), if_neg (by omega), if_neg (by omega), if_pos (by omega), show 296 + 15 * ((311 + i - 296) / 15) = 311 by omega, show (311 + i - 296) % 15 = i by omega]
  · rw [if_neg (by omega), if_neg (by omega), if_neg (by omega), if_neg (by omega), if_neg (by omega), if_neg (by omega), if_neg (by omega), if_pos (by omega), show 81 + 15 * ((f + i - 81) / 15) = f by omega, show (f + i - 81) % 15 = i by omega]
theorem Fo_K {G : Gx} {f i : Nat} (h : Fo G f) (hi : i < 15) : f + i < gK G := by have := h.2.1; omega
theorem Fo_c {G : Gx} {f i : Nat} (h : Fo G f) (hi : i < 15) (r : Nat → Int32) : cellR G (f + i) r = cF (gC G) (gA G) f i r := by
  unfold cellR
  rw [h.2.2 i hi]
  exact cellAt_F h.1 hi
theorem Fo_K0 {G : Gx} {f : Nat} (h : Fo G f) : f < gK G := Fo_K (i := 0) h (by decide)
theorem Fo_c0 {G : Gx} {f : Nat} (h : Fo G f) (r : Nat → Int32) : cellR G f r = .inr (1, [.int (r 0), .ref (gA G (f + 1)), .ref (gA G (f + 2))]) := Fo_c (i := 0) h (by decide) r
theorem Fo_c1 {G : Gx} {f : Nat} (h : Fo G f) (r : Nat → Int32) : cellR G (f + 1) r = rI (gC G) 12 r := Fo_c (i := 1) h (by decide) r
theorem Fo_c2 {G : Gx} {f : Nat} (h : Fo G f) (r : Nat → Int32) : cellR G (f + 2) r = rR (gC G) 12 (fun k => if k < 12 then some (gA G (f + 3 + k)) else none) := Fo_c (i := 2) h (by decide) r
theorem Fo_K3 {G : Gx} {f k : Nat} (h : Fo G f) (hk : k < 12) : f + 3 + k < gK G := by have := h.2.1; omega
theorem Fo_c3 {G : Gx} {f k : Nat} (h : Fo G f) (hk : k < 12) (r : Nat → Int32) : cellR G (f + 3 + k) r = rI (gC G) 12 r := by
  rw [show f + 3 + k = f + (3 + k) by omega, Fo_c h (by omega)]
  unfold cF
  rw [if_neg (by omega), if_neg (by omega)]
theorem Fo_of {G : Gx} {f : Nat} (h : Mn G) (hf : isF f = true) : Fo G f := ⟨hf, by rw [h.1]; rcases isF_iff hf with rfl | rfl | rfl | rfl | ⟨h1, h2, h3⟩ <;> omega, fun i _ => h.2 _⟩
theorem Fo_hist {G : Gx} {k : Nat} (h : Mn G) (hk : k < 14) : Fo G (81 + 15 * k) := Fo_of h (by unfold isF; simp only [Bool.or_eq_true, Bool.and_eq_true, decide_eq_true_eq, beq_iff_eq]; omega)
theorem Fo_slot {G : Gx} {k : Nat} (h : Mn G) (hk : k < 2) : Fo G (296 + 15 * k) := Fo_of h (by unfold isF; simp only [Bool.or_eq_true, Bool.and_eq_true, decide_eq_true_eq, beq_iff_eq]; omega)
theorem mK {G : Gx} {j : Nat} (h : Mn G) (hj : j < 343) : j < gK G := by rw [h.1]; exact hj
theorem mC {G : Gx} (h : Mn G) (j : Nat) (r : Nat → Int32) : cellR G j r = cellAt (gC G) (gA G) j r := by
  unfold cellR
  rw [h.2 j]
theorem Sv_K {G : Gx} {s i : Nat} (h : Sv G s) (hi : i < 14) : s + i < gK G := mK h.2 (by rcases h.1 with rfl | rfl <;> omega)
theorem Sv_c {G : Gx} {s i : Nat} (h : Sv G s) (hi : i < 14) (r : Nat → Int32) : cellR G (s + i) r = cS (gC G) (gA G) (s - 15) s i r := by
  rw [mC h.2]
  unfold cellAt
  rcases h.1 with rfl | rfl
  · rw [if_neg (by omega), if_neg (by omega), if_pos (by omega), show 16 + i - 16 = i by omega]
  · rw [if_neg (by omega), if_neg (by omega), if_neg (by omega), if_neg (by omega), if_pos (by omega), show 45 + i - 45 = i by omega]
theorem Sv_K0 {G : Gx} {s : Nat} (h : Sv G s) : s < gK G := Sv_K (i := 0) h (by decide)
theorem Sv_c0 {G : Gx} {s : Nat} (h : Sv G s) (r : Nat → Int32) : cellR G s r = .inr (5, [.ref (gA G (s - 15)), .int (r 1), .ref (gA G (s + 1))]) := Sv_c (i := 0) h (by decide) r
theorem Sv_c1 {G : Gx} {s : Nat} (h : Sv G s) (r : Nat → Int32) : cellR G (s + 1) r = rR (gC G) 12 (fun k => if k < 12 then some (gA G (s + 2 + k)) else none) := Sv_c (i := 1) h (by decide) r
theorem Sv_K3 {G : Gx} {s k : Nat} (h : Sv G s) (hk : k < 12) : s + 2 + k < gK G := by rw [Nat.add_assoc]; exact Sv_K h (by omega)
theorem Sv_c3 {G : Gx} {s k : Nat} (h : Sv G s) (hk : k < 12) (r : Nat → Int32) : cellR G (s + 2 + k) r = rI (gC G) 12 r := by
  rw [show s + 2 + k = s + (2 + k) by omega, Sv_c h (by omega)]
  unfold cS
  rw [if_neg (by omega), if_neg (by omega)]
theorem Sv_Fo {G : Gx} {s : Nat} (h : Sv G s) : Fo G (s - 15) := Fo_of h.2 (by rcases h.1 with rfl | rfl <;> decide)
theorem Ra_K {G : Gx} {r : Nat} (h : Ra G r) : r < gK G := mK h.2 (by rcases h.1 with rfl | rfl | rfl <;> decide)
theorem Ra_c {G : Gx} {r : Nat} (h : Ra G r) (q : Nat → Int32) : cellR G r q = rI (gC G) 156 q := by
  rw [mC h.2]
  rcases h.1 with rfl | rfl | rfl <;> rfl
theorem Ra_Ia {G : Gx} {r : Nat} (h : Ra G r) : Ia G r 156 := ⟨Ra_K h, Ra_c h⟩
theorem ro_K {G : Gx} {k : Nat} (h : Mn G) (hk : k < 12) : 64 + k < gK G := mK h (by omega)
theorem ro_c {G : Gx} {k : Nat} (h : Mn G) (hk : k < 12) (r : Nat → Int32) : cellR G (64 + k) r = rI (gC G) 12 r := by
  rw [mC h]
  unfold cellAt cC
  rw [if_neg (by omega), if_neg (by omega), if_neg (by omega), if_neg (by omega), if_neg (by omega), if_pos (by omega), if_neg (by omega), if_neg (by omega), if_neg (by omega), if_neg (by omega)]
theorem mc_0 {G : Gx} (h : Mn G) (r : Nat → Int32) : cellR G 0 r = .inr (6, [.ref (gA G 1), .ref (gA G 16), .ref (gA G 30), .ref (gA G 45), .ref (gA G 59), .ref (gA G 76), .ref (gA G 79), .ref (gA G 291), .ref (gA G 295), .ref (gA G 326)]) := (mC h 0 r).trans rfl
theorem mc_59 {G : Gx} (h : Mn G) (r : Nat → Int32) : cellR G 59 r = .inr (0, [.int (r 0), .int (r 1), .int (r 2), .ref (gA G 60), .ref (gA G 61), .ref (gA G 62), .ref (gA G 63)]) := (mC h 59 r).trans rfl
theorem mc_60 {G : Gx} (h : Mn G) (r : Nat → Int32) : cellR G 60 r = rZ (gC G) 12 r := (mC h 60 r).trans rfl
theorem mc_61 {G : Gx} (h : Mn G) (r : Nat → Int32) : cellR G 61 r = rZ (gC G) 12 r := (mC h 61 r).trans rfl
theorem mc_62 {G : Gx} (h : Mn G) (r : Nat → Int32) : cellR G 62 r = rI (gC G) 12 r := (mC h 62 r).trans rfl
theorem mc_63 {G : Gx} (h : Mn G) (r : Nat → Int32) : cellR G 63 r = rR (gC G) 12 (fun k => if k < 12 then some (gA G (64 + k)) else none) := (mC h 63 r).trans rfl
theorem mc_76 {G : Gx} (h : Mn G) (r : Nat → Int32) : cellR G 76 r = .inr (4, [.int (r 0), .ref (gA G 77), .int (r 2), .ref (gA G 78)]) := (mC h 76 r).trans rfl
theorem mc_77 {G : Gx} (h : Mn G) (r : Nat → Int32) : cellR G 77 r = rI (gC G) 80 r := (mC h 77 r).trans rfl
theorem mc_78 {G : Gx} (h : Mn G) (r : Nat → Int32) : cellR G 78 r = rI (gC G) 12 r := (mC h 78 r).trans rfl
theorem mc_79 {G : Gx} (h : Mn G) (r : Nat → Int32) : cellR G 79 r = .inr (2, [.ref (gA G 80), .int (r 1), .int (r 2)]) := (mC h 79 r).trans rfl
theorem mc_80 {G : Gx} (h : Mn G) (r : Nat → Int32) : cellR G 80 r = rF (gC G) 14 (fun k => if k < 14 then some (gA G (81 + 15 * k)) else none) := (mC h 80 r).trans rfl
theorem mc_291 {G : Gx} (h : Mn G) (r : Nat → Int32) : cellR G 291 r = .inr (3, [.ref (gA G 292), .ref (gA G 293), .ref (gA G 294), .int (r 3), .int (r 4)]) := (mC h 291 r).trans rfl
theorem mc_292 {G : Gx} (h : Mn G) (r : Nat → Int32) : cellR G 292 r = rI (gC G) 6 r := (mC h 292 r).trans rfl
theorem mc_293 {G : Gx} (h : Mn G) (r : Nat → Int32) : cellR G 293 r = rI (gC G) 6 r := (mC h 293 r).trans rfl
theorem mc_294 {G : Gx} (h : Mn G) (r : Nat → Int32) : cellR G 294 r = rI (gC G) 6 r := (mC h 294 r).trans rfl
theorem mc_295 {G : Gx} (h : Mn G) (r : Nat → Int32) : cellR G 295 r = rF (gC G) 2 (fun k => if k < 2 then some (gA G (296 + 15 * k)) else none) := (mC h 295 r).trans rfl
theorem mc_326 {G : Gx} (h : Mn G) (r : Nat → Int32) : cellR G 326 r = rZ (gC G) 2 r := (mC h 326 r).trans rfl
theorem mc_327 {G : Gx} (h : Mn G) (r : Nat → Int32) : cellR G 327 r = .inr (7, [.ref (gA G 328), .int (r 1), .int (r 2), .int (r 3), .int (r 4), .ref (gA G 329), .ref (gA G 330), .ref (gA G 331), .ref (gA G 332), .int (r 9), .int (r 10), .ref (gA G 333), .ref (gA G 334), .ref (gA G 335), .int (r 14), .ref (gA G 336), .ref (gA G 337), .ref (gA G 338), .ref (gA G 339), .ref (gA G 340), .ref (gA G 341), .ref (gA G 342), .int (r 22), .int (r 23)]) := (mC h 327 r).trans rfl
theorem mc_328 {G : Gx} (h : Mn G) (r : Nat → Int32) : cellR G 328 r = rI (gC G) 80 r := (mC h 328 r).trans rfl
theorem mc_329 {G : Gx} (h : Mn G) (r : Nat → Int32) : cellR G 329 r = rI (gC G) 156 r := (mC h 329 r).trans rfl
theorem mc_330 {G : Gx} (h : Mn G) (r : Nat → Int32) : cellR G 330 r = rI (gC G) 156 r := (mC h 330 r).trans rfl
theorem mc_331 {G : Gx} (h : Mn G) (r : Nat → Int32) : cellR G 331 r = rI (gC G) 156 r := (mC h 331 r).trans rfl
theorem mc_332 {G : Gx} (h : Mn G) (r : Nat → Int32) : cellR G 332 r = rI (gC G) 2184 r := (mC h 332 r).trans rfl
theorem mc_333 {G : Gx} (h : Mn G) (r : Nat → Int32) : cellR G 333 r = rI (gC G) 312 r := (mC h 333 r).trans rfl
theorem mc_334 {G : Gx} (h : Mn G) (r : Nat → Int32) : cellR G 334 r = rZ (gC G) 2 r := (mC h 334 r).trans rfl
theorem mc_335 {G : Gx} (h : Mn G) (r : Nat → Int32) : cellR G 335 r = rI (gC G) 18 r := (mC h 335 r).trans rfl
theorem mc_336 {G : Gx} (h : Mn G) (r : Nat → Int32) : cellR G 336 r = rI (gC G) 12 r := (mC h 336 r).trans rfl
theorem mc_337 {G : Gx} (h : Mn G) (r : Nat → Int32) : cellR G 337 r = rI (gC G) 12 r := (mC h 337 r).trans rfl
theorem mc_338 {G : Gx} (h : Mn G) (r : Nat → Int32) : cellR G 338 r = rI (gC G) 12 r := (mC h 338 r).trans rfl
theorem mc_339 {G : Gx} (h : Mn G) (r : Nat → Int32) : cellR G 339 r = rI (gC G) 144 r := (mC h 339 r).trans rfl
theorem mc_340 {G : Gx} (h : Mn G) (r : Nat → Int32) : cellR G 340 r = rZ (gC G) 12 r := (mC h 340 r).trans rfl
theorem mc_341 {G : Gx} (h : Mn G) (r : Nat → Int32) : cellR G 341 r = rZ (gC G) 12 r := (mC h 341 r).trans rfl
theorem mc_342 {G : Gx} (h : Mn G) (r : Nat → Int32) : cellR G 342 r = rI (gC G) 12 r := (mC h 342 r).trans rfl
/-! the methods: name, code, locals, answer, room; what the tables say of each -/
abbrev M_J7_fill_53178 : MTy := (yJ7_fill_53178, cJ7_fill_53178, 4, none, { frames := 0, cells := 0, slots := 0, locals := 0 })
theorem ok_J7_fill_53178 : OkS M_J7_fill_53178 2 := ⟨tb_95, tb_60, tb_96, by decide, by decide, by decide +kernel⟩
abbrev M_J9_max_7cf53 : MTy := (yJ9_max_7cf53, cJ9_max_7cf53, 2, (some .int), { frames := 0, cells := 0, slots := 0, locals := 0 })
abbrev M_J9_min_7cf53 : MTy := (yJ9_min_7cf53, cJ9_min_7cf53, 2, (some .int), { frames := 0, cells := 0, slots := 0, locals := 0 })
abbrev M_X0_bypass : MTy := (yX0_bypass, cX0_bypass, 4, none, { frames := 1, cells := 0, slots := 0, locals := 23 })
theorem ok_X0_bypass : OkV M_X0_bypass RX0 1 := ⟨tb_578, tb_20, tb_62, tb_579, rfl, by decide, by decide, by decide +kernel⟩
abbrev M_X0_compress : MTy := (yX0_compress, cX0_compress, 2, none, { frames := 2, cells := 0, slots := 0, locals := 46 })
theorem ok_X0_compress : OkV M_X0_compress RX0 0 := ⟨tb_569, tb_18, tb_62, tb_570, rfl, by decide, by decide, by decide +kernel⟩
abbrev M_X0_contract : MTy := (yX0_contract, cX0_contract, 3, none, { frames := 3, cells := 0, slots := 0, locals := 67 })
theorem ok_X0_contract : OkV M_X0_contract RX0 2 := ⟨tb_530, tb_531, tb_62, tb_532, rfl, by decide, by decide, by decide +kernel⟩
abbrev M_X0_copyEdges : MTy := (yX0_copyEdges, cX0_copyEdges, 4, none, { frames := 2, cells := 0, slots := 0, locals := 44 })
theorem ok_X0_copyEdges : OkV M_X0_copyEdges RX0 1 := ⟨tb_535, tb_10, tb_62, tb_536, rfl, by decide, by decide, by decide +kernel⟩
abbrev M_X0_degreeOf : MTy := (yX0_degreeOf, cX0_degreeOf, 4, (some .int), { frames := 0, cells := 0, slots := 0, locals := 0 })
theorem ok_X0_degreeOf : OkV M_X0_degreeOf RX0 1 := ⟨tb_565, tb_17, tb_62, tb_566, rfl, by decide, by decide, by decide +kernel⟩
abbrev M_X0_gatherNeighbours : MTy := (yX0_gatherNeighbours, cX0_gatherNeighbours, 3, none, { frames := 0, cells := 0, slots := 0, locals := 0 })
theorem ok_X0_gatherNeighbours : OkV M_X0_gatherNeighbours RX0 0 := ⟨tb_549, tb_13, tb_62, tb_550, rfl, by decide, by decide, by decide +kernel⟩
abbrev M_X0_gatherTree : MTy := (yX0_gatherTree, cX0_gatherTree, 3, none, { frames := 1, cells := 0, slots := 0, locals := 22 })
theorem ok_X0_gatherTree : OkV M_X0_gatherTree RX0 1 := ⟨tb_541, tb_11, tb_62, tb_542, rfl, by decide, by decide, by decide +kernel⟩
abbrev M_X0_init : MTy := (yX0_init, cX0_init, 1, none, { frames := 1, cells := 16, slots := 192, locals := 20 })
theorem ok_X0_init : OkI M_X0_init 0 := ⟨tb_128, tb_62, tb_129, rfl, rfl, by decide, by decide, by decide +kernel⟩
abbrev M_X0_isVertex : MTy := (yX0_isVertex, cX0_isVertex, 2, (some .boolean), { frames := 0, cells := 0, slots := 0, locals := 0 })
theorem ok_X0_isVertex : OkV M_X0_isVertex RX0 1 := ⟨tb_545, tb_12, tb_62, tb_546, rfl, by decide, by decide, by decide +kernel⟩
abbrev M_X0_lastVertex : MTy := (yX0_lastVertex, cX0_lastVertex, 2, (some .int), { frames := 0, cells := 0, slots := 0, locals := 0 })
theorem ok_X0_lastVertex : OkV M_X0_lastVertex RX0 0 := ⟨tb_601, tb_602, tb_62, tb_603, rfl, by decide, by decide, by decide +kernel⟩
abbrev M_X0_makeEdgesOld : MTy := (yX0_makeEdgesOld, cX0_makeEdgesOld, 3, none, { frames := 1, cells := 0, slots := 0, locals := 21 })
theorem ok_X0_makeEdgesOld : OkV M_X0_makeEdgesOld RX0 0 := ⟨tb_573, tb_19, tb_62, tb_574, rfl, by decide, by decide, by decide +kernel⟩
abbrev M_X0_neighbourAfter : MTy := (yX0_neighbourAfter, cX0_neighbourAfter, 4, (some .int), { frames := 0, cells := 0, slots := 0, locals := 0 })
theorem ok_X0_neighbourAfter : OkV M_X0_neighbourAfter RX0 2 := ⟨tb_582, tb_21, tb_62, tb_583, rfl, by decide, by decide, by decide +kernel⟩
abbrev M_X0_rake : MTy := (yX0_rake, cX0_rake, 2, none, { frames := 2, cells := 0, slots := 0, locals := 43 })
theorem ok_X0_rake : OkV M_X0_rake RX0 0 := ⟨tb_553, tb_14, tb_62, tb_554, rfl, by decide, by decide, by decide +kernel⟩
abbrev M_X0_remove : MTy := (yX0_remove, cX0_remove, 3, none, { frames := 0, cells := 0, slots := 0, locals := 0 })
theorem ok_X0_remove : OkV M_X0_remove RX0 1 := ⟨tb_561, tb_16, tb_62, tb_562, rfl, by decide, by decide, by decide +kernel⟩
abbrev M_X0_removeGreatest : MTy := (yX0_removeGreatest, cX0_removeGreatest, 2, none, { frames := 1, cells := 0, slots := 0, locals := 22 })
theorem ok_X0_removeGreatest : OkV M_X0_removeGreatest RX0 0 := ⟨tb_557, tb_15, tb_62, tb_558, rfl, by decide, by decide, by decide +kernel⟩
abbrev M_X0_roundCount : MTy := (yX0_roundCount, cX0_roundCount, 1, (some .int), { frames := 0, cells := 0, slots := 0, locals := 0 })
theorem ok_X0_roundCount : OkV M_X0_roundCount RX0 0 := ⟨tb_585, tb_586, tb_62, tb_587, rfl, by decide, by decide, by decide +kernel⟩
abbrev M_X0_roundOf : MTy := (yX0_roundOf, cX0_roundOf, 2, (some .int), { frames := 1, cells := 0, slots := 0, locals := 21 })
theorem ok_X0_roundOf : OkV M_X0_roundOf RX0 1 := ⟨tb_593, tb_594, tb_62, tb_595, rfl, by decide, by decide, by decide +kernel⟩
abbrev M_X1_become : MTy := (yX1_become, cX1_become, 3, none, { frames := 1, cells := 0, slots := 0, locals := 26 })
theorem ok_X1_become : OkV M_X1_become RX1 1 := ⟨tb_324, tb_325, tb_58, tb_326, rfl, by decide, by decide, by decide +kernel⟩
abbrev M_X1_edgeBetween : MTy := (yX1_edgeBetween, cX1_edgeBetween, 3, (some .int), { frames := 1, cells := 0, slots := 0, locals := 22 })
theorem ok_X1_edgeBetween : OkV M_X1_edgeBetween RX1 2 := ⟨tb_347, tb_348, tb_58, tb_349, rfl, by decide, by decide, by decide +kernel⟩
abbrev M_X1_edgeCount : MTy := (yX1_edgeCount, cX1_edgeCount, 4, (some .int), { frames := 3, cells := 0, slots := 0, locals := 66 })
theorem ok_X1_edgeCount : OkV M_X1_edgeCount RX1 0 := ⟨tb_339, tb_340, tb_58, tb_341, rfl, by decide, by decide, by decide +kernel⟩
abbrev M_X1_hasEdge : MTy := (yX1_hasEdge, cX1_hasEdge, 3, (some .boolean), { frames := 2, cells := 0, slots := 0, locals := 44 })
theorem ok_X1_hasEdge : OkV M_X1_hasEdge RX1 2 := ⟨tb_343, tb_344, tb_58, tb_345, rfl, by decide, by decide, by decide +kernel⟩
abbrev M_X1_hasVertex : MTy := (yX1_hasVertex, cX1_hasVertex, 2, (some .boolean), { frames := 0, cells := 0, slots := 0, locals := 0 })
theorem ok_X1_hasVertex : OkV M_X1_hasVertex RX1 1 := ⟨tb_296, tb_297, tb_58, tb_298, rfl, by decide, by decide, by decide +kernel⟩
abbrev M_X1_hasVertices : MTy := (yX1_hasVertices, cX1_hasVertices, 3, (some .boolean), { frames := 0, cells := 0, slots := 0, locals := 0 })
theorem ok_X1_hasVertices : OkV M_X1_hasVertices RX1 2 := ⟨tb_312, tb_313, tb_58, tb_314, rfl, by decide, by decide, by decide +kernel⟩
abbrev M_X1_init : MTy := (yX1_init, cX1_init, 1, none, { frames := 2, cells := 14, slots := 168, locals := 45 })
theorem ok_X1_init : OkI M_X1_init 0 := ⟨tb_79, tb_58, tb_80, rfl, rfl, by decide, by decide, by decide +kernel⟩
abbrev M_X1_putEdge : MTy := (yX1_putEdge, cX1_putEdge, 4, none, { frames := 1, cells := 0, slots := 0, locals := 22 })
theorem ok_X1_putEdge : OkV M_X1_putEdge RX1 3 := ⟨tb_308, tb_309, tb_58, tb_310, rfl, by decide, by decide, by decide +kernel⟩
abbrev M_X1_putWeight : MTy := (yX1_putWeight, cX1_putWeight, 3, none, { frames := 1, cells := 0, slots := 0, locals := 21 })
theorem ok_X1_putWeight : OkV M_X1_putWeight RX1 2 := ⟨tb_292, tb_293, tb_58, tb_294, rfl, by decide, by decide, by decide +kernel⟩
abbrev M_X1_reset : MTy := (yX1_reset, cX1_reset, 3, none, { frames := 1, cells := 0, slots := 0, locals := 23 })
theorem ok_X1_reset : OkV M_X1_reset RX1 1 := ⟨tb_85, tb_86, tb_58, tb_87, rfl, by decide, by decide, by decide +kernel⟩
abbrev M_X1_vertices : MTy := (yX1_vertices, cX1_vertices, 1, (some .int), { frames := 0, cells := 0, slots := 0, locals := 0 })
theorem ok_X1_vertices : OkV M_X1_vertices RX1 0 := ⟨tb_288, tb_289, tb_58, tb_290, rfl, by decide, by decide, by decide +kernel⟩
abbrev M_X1_weightOf : MTy := (yX1_weightOf, cX1_weightOf, 2, (some .int), { frames := 1, cells := 0, slots := 0, locals := 21 })
theorem ok_X1_weightOf : OkV M_X1_weightOf RX1 1 := ⟨tb_356, tb_357, tb_58, tb_358, rfl, by decide, by decide, by decide +kernel⟩
abbrev M_X2_forget : MTy := (yX2_forget, cX2_forget, 1, none, { frames := 0, cells := 0, slots := 0, locals := 0 })
theorem ok_X2_forget : OkV M_X2_forget RX2 0 := ⟨tb_331, tb_332, tb_64, tb_333, rfl, by decide, by decide, by decide +kernel⟩
abbrev M_X2_init : MTy := (yX2_init, cX2_init, 2, none, { frames := 3, cells := 211, slots := 2408, locals := 65 })
theorem ok_X2_init : OkI M_X2_init 0 := ⟨tb_177, tb_64, tb_178, rfl, rfl, by decide, by decide, by decide +kernel⟩
abbrev M_X2_remember : MTy := (yX2_remember, cX2_remember, 2, none, { frames := 2, cells := 0, slots := 0, locals := 48 })
theorem ok_X2_remember : OkV M_X2_remember RX2 1 := ⟨tb_403, tb_404, tb_64, tb_405, rfl, by decide, by decide, by decide +kernel⟩
abbrev M_X2_size : MTy := (yX2_size, cX2_size, 1, (some .int), { frames := 0, cells := 0, slots := 0, locals := 0 })
theorem ok_X2_size : OkV M_X2_size RX2 0 := ⟨tb_434, tb_435, tb_64, tb_436, rfl, by decide, by decide, by decide +kernel⟩
abbrev M_X2_takeBack : MTy := (yX2_takeBack, cX2_takeBack, 2, (some .boolean), { frames := 2, cells := 0, slots := 0, locals := 48 })
theorem ok_X2_takeBack : OkV M_X2_takeBack RX2 1 := ⟨tb_430, tb_431, tb_64, tb_432, rfl, by decide, by decide, by decide +kernel⟩
abbrev M_X3_countWeights : MTy := (yX3_countWeights, cX3_countWeights, 9, (some .int), { frames := 3, cells := 0, slots := 0, locals := 71 })
theorem ok_X3_countWeights : OkV M_X3_countWeights RX3 3 := ⟨tb_647, tb_648, tb_65, tb_649, rfl, by decide, by decide, by decide +kernel⟩
abbrev M_X3_init : MTy := (yX3_init, cX3_init, 1, none, { frames := 1, cells := 3, slots := 18, locals := 20 })
theorem ok_X3_init : OkI M_X3_init 0 := ⟨tb_196, tb_65, tb_197, rfl, rfl, by decide, by decide, by decide +kernel⟩
abbrev M_X3_store : MTy := (yX3_store, cX3_store, 4, (some .int), { frames := 1, cells := 0, slots := 0, locals := 21 })
theorem ok_X3_store : OkV M_X3_store RX3 3 := ⟨tb_638, tb_639, tb_65, tb_640, rfl, by decide, by decide, by decide +kernel⟩
abbrev M_X4_empty : MTy := (yX4_empty, cX4_empty, 1, none, { frames := 0, cells := 0, slots := 0, locals := 0 })
theorem ok_X4_empty : OkV M_X4_empty RX4 0 := ⟨tb_263, tb_264, tb_63, tb_265, rfl, by decide, by decide, by decide +kernel⟩
abbrev M_X4_init : MTy := (yX4_init, cX4_init, 1, none, { frames := 1, cells := 2, slots := 92, locals := 20 })
theorem ok_X4_init : OkI M_X4_init 0 := ⟨tb_158, tb_63, tb_159, rfl, rfl, by decide, by decide, by decide +kernel⟩
abbrev M_X4_joinTrees : MTy := (yX4_joinTrees, cX4_joinTrees, 4, none, { frames := 0, cells := 0, slots := 0, locals := 0 })
theorem ok_X4_joinTrees : OkV M_X4_joinTrees RX4 2 := ⟨tb_317, tb_5, tb_63, tb_318, rfl, by decide, by decide, by decide +kernel⟩
abbrev M_X4_put : MTy := (yX4_put, cX4_put, 2, (some .boolean), { frames := 0, cells := 0, slots := 0, locals := 0 })
theorem ok_X4_put : OkV M_X4_put RX4 1 := ⟨tb_251, tb_252, tb_63, tb_253, rfl, by decide, by decide, by decide +kernel⟩
abbrev M_X4_readInto : MTy := (yX4_readInto, cX4_readInto, 3, (some .int), { frames := 4, cells := 0, slots := 0, locals := 96 })
theorem ok_X4_readInto : OkV M_X4_readInto RX4 1 := ⟨tb_271, tb_272, tb_63, tb_273, rfl, by decide, by decide, by decide +kernel⟩
abbrev M_X4_size : MTy := (yX4_size, cX4_size, 1, (some .int), { frames := 0, cells := 0, slots := 0, locals := 0 })
theorem ok_X4_size : OkV M_X4_size RX4 0 := ⟨tb_255, tb_256, tb_63, tb_257, rfl, by decide, by decide, by decide +kernel⟩
abbrev M_X4_take : MTy := (yX4_take, cX4_take, 4, (some .int), { frames := 0, cells := 0, slots := 0, locals := 0 })
theorem ok_X4_take : OkV M_X4_take RX4 2 := ⟨tb_276, tb_0, tb_63, tb_277, rfl, by decide, by decide, by decide +kernel⟩
abbrev M_X4_takeEdge : MTy := (yX4_takeEdge, cX4_takeEdge, 6, (some .boolean), { frames := 2, cells := 0, slots := 0, locals := 49 })
theorem ok_X4_takeEdge : OkV M_X4_takeEdge RX4 1 := ⟨tb_305, tb_4, tb_63, tb_306, rfl, by decide, by decide, by decide +kernel⟩
abbrev M_X4_takeEdges : MTy := (yX4_takeEdges, cX4_takeEdges, 3, (some .boolean), { frames := 3, cells := 0, slots := 0, locals := 74 })
theorem ok_X4_takeEdges : OkV M_X4_takeEdges RX4 1 := ⟨tb_301, tb_3, tb_63, tb_302, rfl, by decide, by decide, by decide +kernel⟩
abbrev M_X4_takeNumber : MTy := (yX4_takeNumber, cX4_takeNumber, 7, (some .int), { frames := 1, cells := 0, slots := 0, locals := 23 })
theorem ok_X4_takeNumber : OkV M_X4_takeNumber RX4 2 := ⟨tb_280, tb_1, tb_63, tb_281, rfl, by decide, by decide, by decide +kernel⟩
abbrev M_X4_takeWeights : MTy := (yX4_takeWeights, cX4_takeWeights, 4, (some .boolean), { frames := 2, cells := 0, slots := 0, locals := 49 })
theorem ok_X4_takeWeights : OkV M_X4_takeWeights RX4 1 := ⟨tb_285, tb_2, tb_63, tb_286, rfl, by decide, by decide, by decide +kernel⟩
abbrev M_X5_between : MTy := (yX5_between, cX5_between, 3, (some .int), { frames := 0, cells := 0, slots := 0, locals := 0 })
theorem ok_X5_between : OkV M_X5_between RX5 2 := ⟨tb_391, tb_392, tb_61, tb_393, rfl, by decide, by decide, by decide +kernel⟩
abbrev M_X5_chanceOfPath : MTy := (yX5_chanceOfPath, cX5_chanceOfPath, 8, (some .long), { frames := 4, cells := 0, slots := 0, locals := 89 })
theorem ok_X5_chanceOfPath : OkV M_X5_chanceOfPath RX5 3 := ⟨tb_629, tb_23, tb_61, tb_630, rfl, by decide, by decide, by decide +kernel⟩
abbrev M_X5_cheapestOf : MTy := (yX5_cheapestOf, cX5_cheapestOf, 5, (some .int), { frames := 3, cells := 0, slots := 0, locals := 67 })
theorem ok_X5_cheapestOf : OkV M_X5_cheapestOf RX5 1 := ⟨tb_500, tb_501, tb_61, tb_502, rfl, by decide, by decide, by decide +kernel⟩
abbrev M_X5_edgeOf : MTy := (yX5_edgeOf, cX5_edgeOf, 3, (some .int), { frames := 2, cells := 0, slots := 0, locals := 44 })
theorem ok_X5_edgeOf : OkV M_X5_edgeOf RX5 2 := ⟨tb_657, tb_658, tb_61, tb_659, rfl, by decide, by decide, by decide +kernel⟩
abbrev M_X5_evenestEdge : MTy := (yX5_evenestEdge, cX5_evenestEdge, 6, (some .int), { frames := 3, cells := 0, slots := 0, locals := 69 })
theorem ok_X5_evenestEdge : OkV M_X5_evenestEdge RX5 1 := ⟨tb_609, tb_610, tb_61, tb_611, rfl, by decide, by decide, by decide +kernel⟩
abbrev M_X5_extendOver : MTy := (yX5_extendOver, cX5_extendOver, 5, none, { frames := 1, cells := 0, slots := 0, locals := 21 })
theorem ok_X5_extendOver : OkV M_X5_extendOver RX5 2 := ⟨tb_379, tb_7, tb_61, tb_380, rfl, by decide, by decide, by decide +kernel⟩
abbrev M_X5_firstFarthest : MTy := (yX5_firstFarthest, cX5_firstFarthest, 6, (some .int), { frames := 1, cells := 0, slots := 0, locals := 22 })
theorem ok_X5_firstFarthest : OkV M_X5_firstFarthest RX5 1 := ⟨tb_464, tb_465, tb_61, tb_466, rfl, by decide, by decide, by decide +kernel⟩
abbrev M_X5_firstWideEnd : MTy := (yX5_firstWideEnd, cX5_firstWideEnd, 5, (some .int), { frames := 3, cells := 0, slots := 0, locals := 68 })
theorem ok_X5_firstWideEnd : OkV M_X5_firstWideEnd RX5 1 := ⟨tb_476, tb_477, tb_61, tb_478, rfl, by decide, by decide, by decide +kernel⟩
abbrev M_X5_goesOver : MTy := (yX5_goesOver, cX5_goesOver, 8, (some .boolean), { frames := 2, cells := 0, slots := 0, locals := 44 })
theorem ok_X5_goesOver : OkV M_X5_goesOver RX5 4 := ⟨tb_653, tb_654, tb_61, tb_655, rfl, by decide, by decide, by decide +kernel⟩
abbrev M_X5_greatestFrom : MTy := (yX5_greatestFrom, cX5_greatestFrom, 2, (some .int), { frames := 2, cells := 0, slots := 0, locals := 47 })
theorem ok_X5_greatestFrom : OkV M_X5_greatestFrom RX5 1 := ⟨tb_460, tb_461, tb_61, tb_462, rfl, by decide, by decide, by decide +kernel⟩
abbrev M_X5_heavierPart : MTy := (yX5_heavierPart, cX5_heavierPart, 6, (some .int), { frames := 2, cells := 0, slots := 0, locals := 44 })
theorem ok_X5_heavierPart : OkV M_X5_heavierPart RX5 2 := ⟨tb_614, tb_22, tb_61, tb_615, rfl, by decide, by decide, by decide +kernel⟩
abbrev M_X5_init : MTy := (yX5_init, cX5_init, 2, none, { frames := 1, cells := 13, slots := 156, locals := 20 })
theorem ok_X5_init : OkI M_X5_init 1 := ⟨tb_111, tb_61, tb_112, rfl, rfl, by decide, by decide, by decide +kernel⟩
abbrev M_X5_joined : MTy := (yX5_joined, cX5_joined, 3, (some .boolean), { frames := 1, cells := 0, slots := 0, locals := 22 })
theorem ok_X5_joined : OkV M_X5_joined RX5 2 := ⟨tb_387, tb_388, tb_61, tb_389, rfl, by decide, by decide, by decide +kernel⟩
abbrev M_X5_measure : MTy := (yX5_measure, cX5_measure, 4, none, { frames := 2, cells := 0, slots := 0, locals := 45 })
theorem ok_X5_measure : OkV M_X5_measure RX5 0 := ⟨tb_371, tb_372, tb_61, tb_373, rfl, by decide, by decide, by decide +kernel⟩
abbrev M_X5_meetingOf : MTy := (yX5_meetingOf, cX5_meetingOf, 5, (some .int), { frames := 2, cells := 0, slots := 0, locals := 45 })
theorem ok_X5_meetingOf : OkV M_X5_meetingOf RX5 3 := ⟨tb_518, tb_519, tb_61, tb_520, rfl, by decide, by decide, by decide +kernel⟩
abbrev M_X5_middleOf : MTy := (yX5_middleOf, cX5_middleOf, 5, (some .int), { frames := 3, cells := 0, slots := 0, locals := 68 })
theorem ok_X5_middleOf : OkV M_X5_middleOf RX5 1 := ⟨tb_491, tb_492, tb_61, tb_493, rfl, by decide, by decide, by decide +kernel⟩
abbrev M_X5_onPath : MTy := (yX5_onPath, cX5_onPath, 4, (some .boolean), { frames := 1, cells := 0, slots := 0, locals := 22 })
theorem ok_X5_onPath : OkV M_X5_onPath RX5 3 := ⟨tb_523, tb_9, tb_61, tb_524, rfl, by decide, by decide, by decide +kernel⟩
abbrev M_X5_priceOf : MTy := (yX5_priceOf, cX5_priceOf, 4, (some .int), { frames := 2, cells := 0, slots := 0, locals := 44 })
theorem ok_X5_priceOf : OkV M_X5_priceOf RX5 1 := ⟨tb_504, tb_505, tb_61, tb_506, rfl, by decide, by decide, by decide +kernel⟩
abbrev M_X5_reachOf : MTy := (yX5_reachOf, cX5_reachOf, 6, (some .long), { frames := 5, cells := 0, slots := 0, locals := 116 })
theorem ok_X5_reachOf : OkV M_X5_reachOf RX5 2 := ⟨tb_624, tb_625, tb_61, tb_626, rfl, by decide, by decide, by decide +kernel⟩
abbrev M_X5_smallestJoined : MTy := (yX5_smallestJoined, cX5_smallestJoined, 3, (some .int), { frames := 2, cells := 0, slots := 0, locals := 44 })
theorem ok_X5_smallestJoined : OkV M_X5_smallestJoined RX5 1 := ⟨tb_383, tb_384, tb_61, tb_385, rfl, by decide, by decide, by decide +kernel⟩
abbrev M_X5_stepToward : MTy := (yX5_stepToward, cX5_stepToward, 4, (some .int), { frames := 3, cells := 0, slots := 0, locals := 66 })
theorem ok_X5_stepToward : OkV M_X5_stepToward RX5 2 := ⟨tb_452, tb_8, tb_61, tb_453, rfl, by decide, by decide, by decide +kernel⟩
abbrev M_X5_vertexOnPath : MTy := (yX5_vertexOnPath, cX5_vertexOnPath, 6, (some .int), { frames := 4, cells := 0, slots := 0, locals := 89 })
theorem ok_X5_vertexOnPath : OkV M_X5_vertexOnPath RX5 3 := ⟨tb_447, tb_448, tb_61, tb_449, rfl, by decide, by decide, by decide +kernel⟩
abbrev M_X5_widthAround : MTy := (yX5_widthAround, cX5_widthAround, 2, (some .int), { frames := 4, cells := 0, slots := 0, locals := 92 })
theorem ok_X5_widthAround : OkV M_X5_widthAround RX5 1 := ⟨tb_472, tb_473, tb_61, tb_474, rfl, by decide, by decide, by decide +kernel⟩
abbrev M_X6_append : MTy := (yX6_append, cX6_append, 2, (some .int), { frames := 1, cells := 0, slots := 0, locals := 21 })
theorem ok_X6_append : OkV M_X6_append RX6 1 := ⟨tb_247, tb_248, tb_57, tb_249, rfl, by decide, by decide, by decide +kernel⟩
abbrev M_X6_balancedCut : MTy := (yX6_balancedCut, cX6_balancedCut, 2, (some .int), { frames := 4, cells := 0, slots := 0, locals := 94 })
theorem ok_X6_balancedCut : OkV M_X6_balancedCut RX6 1 := ⟨tb_605, tb_606, tb_57, tb_607, rfl, by decide, by decide, by decide +kernel⟩
abbrev M_X6_centre : MTy := (yX6_centre, cX6_centre, 2, (some .int), { frames := 4, cells := 0, slots := 0, locals := 92 })
theorem ok_X6_centre : OkV M_X6_centre RX6 1 := ⟨tb_487, tb_488, tb_57, tb_489, rfl, by decide, by decide, by decide +kernel⟩
abbrev M_X6_changeTrial : MTy := (yX6_changeTrial, cX6_changeTrial, 6, none, { frames := 4, cells := 0, slots := 0, locals := 92 })
theorem ok_X6_changeTrial : OkV M_X6_changeTrial RX6 1 := ⟨tb_694, tb_29, tb_57, tb_695, rfl, by decide, by decide, by decide +kernel⟩
abbrev M_X6_clearText : MTy := (yX6_clearText, cX6_clearText, 2, (some .int), { frames := 1, cells := 0, slots := 0, locals := 20 })
theorem ok_X6_clearText : OkV M_X6_clearText RX6 0 := ⟨tb_259, tb_260, tb_57, tb_261, rfl, by decide, by decide, by decide +kernel⟩
abbrev M_X6_cost : MTy := (yX6_cost, cX6_cost, 2, (some .int), { frames := 3, cells := 0, slots := 0, locals := 68 })
theorem ok_X6_cost : OkV M_X6_cost RX6 1 := ⟨tb_509, tb_510, tb_57, tb_511, rfl, by decide, by decide, by decide +kernel⟩
abbrev M_X6_cut : MTy := (yX6_cut, cX6_cut, 5, (some .int), { frames := 4, cells := 0, slots := 0, locals := 88 })
theorem ok_X6_cut : OkV M_X6_cut RX6 2 := ⟨tb_410, tb_411, tb_57, tb_412, rfl, by decide, by decide, by decide +kernel⟩
abbrev M_X6_cutError : MTy := (yX6_cutError, cX6_cutError, 3, (some .int), { frames := 3, cells := 0, slots := 0, locals := 66 })
theorem ok_X6_cutError : OkS M_X6_cutError 3 := ⟨tb_414, tb_57, tb_415, by decide, by decide, by decide +kernel⟩
abbrev M_X6_diameter : MTy := (yX6_diameter, cX6_diameter, 2, (some .int), { frames := 5, cells := 0, slots := 0, locals := 113 })
theorem ok_X6_diameter : OkV M_X6_diameter RX6 1 := ⟨tb_468, tb_469, tb_57, tb_470, rfl, by decide, by decide, by decide +kernel⟩
abbrev M_X6_diameterEnd : MTy := (yX6_diameterEnd, cX6_diameterEnd, 4, (some .int), { frames := 4, cells := 0, slots := 0, locals := 92 })
theorem ok_X6_diameterEnd : OkV M_X6_diameterEnd RX6 2 := ⟨tb_481, tb_482, tb_57, tb_483, rfl, by decide, by decide, by decide +kernel⟩
abbrev M_X6_distance : MTy := (yX6_distance, cX6_distance, 3, (some .int), { frames := 3, cells := 0, slots := 0, locals := 68 })
theorem ok_X6_distance : OkV M_X6_distance RX6 2 := ⟨tb_438, tb_439, tb_57, tb_440, rfl, by decide, by decide, by decide +kernel⟩
abbrev M_X6_eccentricity : MTy := (yX6_eccentricity, cX6_eccentricity, 2, (some .int), { frames := 3, cells := 0, slots := 0, locals := 68 })
theorem ok_X6_eccentricity : OkV M_X6_eccentricity RX6 1 := ⟨tb_456, tb_457, tb_57, tb_458, rfl, by decide, by decide, by decide +kernel⟩
abbrev M_X6_edgeWeight : MTy := (yX6_edgeWeight, cX6_edgeWeight, 3, (some .int), { frames := 3, cells := 0, slots := 0, locals := 66 })
theorem ok_X6_edgeWeight : OkV M_X6_edgeWeight RX6 2 := ⟨tb_360, tb_361, tb_57, tb_362, rfl, by decide, by decide, by decide +kernel⟩
abbrev M_X6_emptySlots : MTy := (yX6_emptySlots, cX6_emptySlots, 2, none, { frames := 0, cells := 0, slots := 0, locals := 0 })
theorem ok_X6_emptySlots : OkV M_X6_emptySlots RX6 0 := ⟨tb_336, tb_6, tb_57, tb_337, rfl, by decide, by decide, by decide +kernel⟩
abbrev M_X6_errorPosition : MTy := (yX6_errorPosition, cX6_errorPosition, 1, (some .int), { frames := 5, cells := 0, slots := 0, locals := 118 })
theorem ok_X6_errorPosition : OkV M_X6_errorPosition RX6 0 := ⟨tb_267, tb_268, tb_57, tb_269, rfl, by decide, by decide, by decide +kernel⟩
abbrev M_X6_expectedReach : MTy := (yX6_expectedReach, cX6_expectedReach, 3, (some .long), { frames := 6, cells := 0, slots := 0, locals := 141 })
theorem ok_X6_expectedReach : OkV M_X6_expectedReach RX6 2 := ⟨tb_618, tb_619, tb_57, tb_620, rfl, by decide, by decide, by decide +kernel⟩
abbrev M_X6_init : MTy := (yX6_init, cX6_init, 2, none, { frames := 4, cells := 326, slots := 3735, locals := 86 })
theorem ok_X6_init : OkI M_X6_init 0 := ⟨tb_71, tb_57, tb_72, rfl, rfl, by decide, by decide, by decide +kernel⟩
abbrev M_X6_joinedInTrial : MTy := (yX6_joinedInTrial, cX6_joinedInTrial, 3, (some .boolean), { frames := 3, cells := 0, slots := 0, locals := 68 })
theorem ok_X6_joinedInTrial : OkV M_X6_joinedInTrial RX6 2 := ⟨tb_680, tb_27, tb_57, tb_681, rfl, by decide, by decide, by decide +kernel⟩
abbrev M_X6_leavesEarlier : MTy := (yX6_leavesEarlier, cX6_leavesEarlier, 5, (some .boolean), { frames := 4, cells := 0, slots := 0, locals := 89 })
theorem ok_X6_leavesEarlier : OkV M_X6_leavesEarlier RX6 2 := ⟨tb_684, tb_28, tb_57, tb_685, rfl, by decide, by decide, by decide +kernel⟩
abbrev M_X6_link : MTy := (yX6_link, cX6_link, 5, (some .int), { frames := 4, cells := 0, slots := 0, locals := 92 })
theorem ok_X6_link : OkV M_X6_link RX6 3 := ⟨tb_395, tb_396, tb_57, tb_397, rfl, by decide, by decide, by decide +kernel⟩
abbrev M_X6_linkError : MTy := (yX6_linkError, cX6_linkError, 5, (some .int), { frames := 3, cells := 0, slots := 0, locals := 68 })
theorem ok_X6_linkError : OkS M_X6_linkError 5 := ⟨tb_399, tb_57, tb_400, by decide, by decide, by decide +kernel⟩
abbrev M_X6_load : MTy := (yX6_load, cX6_load, 1, (some .int), { frames := 5, cells := 0, slots := 0, locals := 118 })
theorem ok_X6_load : OkV M_X6_load RX6 0 := ⟨tb_320, tb_321, tb_57, tb_322, rfl, by decide, by decide, by decide +kernel⟩
abbrev M_X6_median : MTy := (yX6_median, cX6_median, 2, (some .int), { frames := 4, cells := 0, slots := 0, locals := 91 })
theorem ok_X6_median : OkV M_X6_median RX6 1 := ⟨tb_496, tb_497, tb_57, tb_498, rfl, by decide, by decide, by decide +kernel⟩
abbrev M_X6_meeting : MTy := (yX6_meeting, cX6_meeting, 4, (some .int), { frames := 3, cells := 0, slots := 0, locals := 69 })
theorem ok_X6_meeting : OkV M_X6_meeting RX6 3 := ⟨tb_514, tb_515, tb_57, tb_516, rfl, by decide, by decide, by decide +kernel⟩
abbrev M_X6_obeys : MTy := (yX6_obeys, cX6_obeys, 4, (some .boolean), { frames := 5, cells := 0, slots := 0, locals := 114 })
theorem ok_X6_obeys : OkV M_X6_obeys RX6 1 := ⟨tb_668, tb_24, tb_57, tb_669, rfl, by decide, by decide, by decide +kernel⟩
abbrev M_X6_observe : MTy := (yX6_observe, cX6_observe, 4, (some .int), { frames := 2, cells := 0, slots := 0, locals := 44 })
theorem ok_X6_observe : OkV M_X6_observe RX6 3 := ⟨tb_634, tb_635, tb_57, tb_636, rfl, by decide, by decide, by decide +kernel⟩
abbrev M_X6_pathVertex : MTy := (yX6_pathVertex, cX6_pathVertex, 4, (some .int), { frames := 5, cells := 0, slots := 0, locals := 114 })
theorem ok_X6_pathVertex : OkV M_X6_pathVertex RX6 3 := ⟨tb_443, tb_444, tb_57, tb_445, rfl, by decide, by decide, by decide +kernel⟩
abbrev M_X6_possibleWeights : MTy := (yX6_possibleWeights, cX6_possibleWeights, 3, (some .int), { frames := 4, cells := 0, slots := 0, locals := 99 })
theorem ok_X6_possibleWeights : OkV M_X6_possibleWeights RX6 2 := ⟨tb_643, tb_644, tb_57, tb_645, rfl, by decide, by decide, by decide +kernel⟩
abbrev M_X6_randomChanges : MTy := (yX6_randomChanges, cX6_randomChanges, 8, (some .int), { frames := 5, cells := 0, slots := 0, locals := 117 })
theorem ok_X6_randomChanges : OkV M_X6_randomChanges RX6 2 := ⟨tb_687, tb_688, tb_57, tb_689, rfl, by decide, by decide, by decide +kernel⟩
abbrev M_X6_removalRound : MTy := (yX6_removalRound, cX6_removalRound, 2, (some .int), { frames := 4, cells := 0, slots := 0, locals := 89 })
theorem ok_X6_removalRound : OkV M_X6_removalRound RX6 1 := ⟨tb_589, tb_590, tb_57, tb_591, rfl, by decide, by decide, by decide +kernel⟩
abbrev M_X6_restore : MTy := (yX6_restore, cX6_restore, 2, (some .int), { frames := 4, cells := 0, slots := 0, locals := 89 })
theorem ok_X6_restore : OkV M_X6_restore RX6 1 := ⟨tb_702, tb_703, tb_57, tb_704, rfl, by decide, by decide, by decide +kernel⟩
abbrev M_X6_rounds : MTy := (yX6_rounds, cX6_rounds, 2, (some .int), { frames := 4, cells := 0, slots := 0, locals := 89 })
theorem ok_X6_rounds : OkV M_X6_rounds RX6 1 := ⟨tb_526, tb_527, tb_57, tb_528, rfl, by decide, by decide, by decide +kernel⟩
abbrev M_X6_runScript : MTy := (yX6_runScript, cX6_runScript, 7, (some .int), { frames := 6, cells := 0, slots := 0, locals := 137 })
theorem ok_X6_runScript : OkV M_X6_runScript RX6 2 := ⟨tb_662, tb_663, tb_57, tb_664, rfl, by decide, by decide, by decide +kernel⟩
abbrev M_X6_save : MTy := (yX6_save, cX6_save, 2, (some .int), { frames := 4, cells := 0, slots := 0, locals := 89 })
theorem ok_X6_save : OkV M_X6_save RX6 1 := ⟨tb_698, tb_699, tb_57, tb_700, rfl, by decide, by decide, by decide +kernel⟩
abbrev M_X6_setEdgeWeight : MTy := (yX6_setEdgeWeight, cX6_setEdgeWeight, 5, (some .int), { frames := 3, cells := 0, slots := 0, locals := 69 })
theorem ok_X6_setEdgeWeight : OkV M_X6_setEdgeWeight RX6 3 := ⟨tb_417, tb_418, tb_57, tb_419, rfl, by decide, by decide, by decide +kernel⟩
abbrev M_X6_setVertexWeight : MTy := (yX6_setVertexWeight, cX6_setVertexWeight, 4, (some .int), { frames := 3, cells := 0, slots := 0, locals := 69 })
theorem ok_X6_setVertexWeight : OkV M_X6_setVertexWeight RX6 2 := ⟨tb_421, tb_422, tb_57, tb_423, rfl, by decide, by decide, by decide +kernel⟩
abbrev M_X6_survivor : MTy := (yX6_survivor, cX6_survivor, 2, (some .int), { frames := 4, cells := 0, slots := 0, locals := 89 })
theorem ok_X6_survivor : OkV M_X6_survivor RX6 1 := ⟨tb_597, tb_598, tb_57, tb_599, rfl, by decide, by decide, by decide +kernel⟩
abbrev M_X6_treeOf : MTy := (yX6_treeOf, cX6_treeOf, 2, (some .int), { frames := 3, cells := 0, slots := 0, locals := 68 })
theorem ok_X6_treeOf : OkV M_X6_treeOf RX6 1 := ⟨tb_367, tb_368, tb_57, tb_369, rfl, by decide, by decide, by decide +kernel⟩
abbrev M_X6_triesCut : MTy := (yX6_triesCut, cX6_triesCut, 3, (some .boolean), { frames := 4, cells := 0, slots := 0, locals := 88 })
theorem ok_X6_triesCut : OkV M_X6_triesCut RX6 2 := ⟨tb_676, tb_26, tb_57, tb_677, rfl, by decide, by decide, by decide +kernel⟩
abbrev M_X6_triesLink : MTy := (yX6_triesLink, cX6_triesLink, 3, (some .boolean), { frames := 4, cells := 0, slots := 0, locals := 92 })
theorem ok_X6_triesLink : OkV M_X6_triesLink RX6 2 := ⟨tb_672, tb_25, tb_57, tb_673, rfl, by decide, by decide, by decide +kernel⟩
abbrev M_X6_undo : MTy := (yX6_undo, cX6_undo, 1, (some .int), { frames := 3, cells := 0, slots := 0, locals := 69 })
theorem ok_X6_undo : OkV M_X6_undo RX6 0 := ⟨tb_426, tb_427, tb_57, tb_428, rfl, by decide, by decide, by decide +kernel⟩
abbrev M_X6_vertexWeight : MTy := (yX6_vertexWeight, cX6_vertexWeight, 2, (some .int), { frames := 2, cells := 0, slots := 0, locals := 42 })
theorem ok_X6_vertexWeight : OkV M_X6_vertexWeight RX6 1 := ⟨tb_351, tb_352, tb_57, tb_353, rfl, by decide, by decide, by decide +kernel⟩
abbrev M_X7_agrees : MTy := (yX7_agrees, cX7_agrees, 6, (some .boolean), { frames := 3, cells := 0, slots := 0, locals := 69 })
theorem ok_X7_agrees : OkV M_X7_agrees RX7 1 := ⟨tb_1016, tb_54, tb_66, tb_1017, rfl, by decide, by decide, by decide +kernel⟩
abbrev M_X7_append : MTy := (yX7_append, cX7_append, 2, (some .int), { frames := 1, cells := 0, slots := 0, locals := 25 })
theorem ok_X7_append : OkV M_X7_append RX7 1 := ⟨tb_785, tb_786, tb_66, tb_787, rfl, by decide, by decide, by decide +kernel⟩
abbrev M_X7_at : MTy := (yX7_at, cX7_at, 2, (some .int), { frames := 0, cells := 0, slots := 0, locals := 0 })
theorem ok_X7_at : OkS M_X7_at 2 := ⟨tb_829, tb_66, tb_830, by decide, by decide, by decide +kernel⟩
abbrev M_X7_balancedCut : MTy := (yX7_balancedCut, cX7_balancedCut, 9, (some .int), { frames := 4, cells := 0, slots := 0, locals := 92 })
theorem ok_X7_balancedCut : OkV M_X7_balancedCut RX7 1 := ⟨tb_990, tb_991, tb_66, tb_992, rfl, by decide, by decide, by decide +kernel⟩
abbrev M_X7_centre : MTy := (yX7_centre, cX7_centre, 2, (some .int), { frames := 4, cells := 0, slots := 0, locals := 97 })
theorem ok_X7_centre : OkV M_X7_centre RX7 1 := ⟨tb_922, tb_923, tb_66, tb_924, rfl, by decide, by decide, by decide +kernel⟩
abbrev M_X7_clearText : MTy := (yX7_clearText, cX7_clearText, 2, (some .int), { frames := 0, cells := 0, slots := 0, locals := 0 })
theorem ok_X7_clearText : OkV M_X7_clearText RX7 0 := ⟨tb_793, tb_794, tb_66, tb_795, rfl, by decide, by decide, by decide +kernel⟩
abbrev M_X7_command : MTy := (yX7_command, cX7_command, 5, (some .boolean), { frames := 5, cells := 0, slots := 0, locals := 116 })
theorem ok_X7_command : OkV M_X7_command RX7 3 := ⟨tb_1029, tb_55, tb_66, tb_1030, rfl, by decide, by decide, by decide +kernel⟩
abbrev M_X7_compress : MTy := (yX7_compress, cX7_compress, 5, none, { frames := 1, cells := 0, slots := 0, locals := 23 })
theorem ok_X7_compress : OkV M_X7_compress RX7 1 := ⟨tb_975, tb_51, tb_66, tb_976, rfl, by decide, by decide, by decide +kernel⟩
abbrev M_X7_contract : MTy := (yX7_contract, cX7_contract, 5, none, { frames := 2, cells := 0, slots := 0, locals := 47 })
theorem ok_X7_contract : OkV M_X7_contract RX7 2 := ⟨tb_955, tb_46, tb_66, tb_956, rfl, by decide, by decide, by decide +kernel⟩
abbrev M_X7_copy : MTy := (yX7_copy, cX7_copy, 3, none, { frames := 0, cells := 0, slots := 0, locals := 0 })
theorem ok_X7_copy : OkS M_X7_copy 2 := ⟨tb_839, tb_66, tb_840, by decide, by decide, by decide +kernel⟩
abbrev M_X7_cost : MTy := (yX7_cost, cX7_cost, 2, (some .int), { frames := 3, cells := 0, slots := 0, locals := 70 })
theorem ok_X7_cost : OkV M_X7_cost RX7 1 := ⟨tb_938, tb_939, tb_66, tb_940, rfl, by decide, by decide, by decide +kernel⟩
abbrev M_X7_costOf : MTy := (yX7_costOf, cX7_costOf, 5, (some .int), { frames := 2, cells := 0, slots := 0, locals := 46 })
theorem ok_X7_costOf : OkV M_X7_costOf RX7 2 := ⟨tb_931, tb_44, tb_66, tb_932, rfl, by decide, by decide, by decide +kernel⟩
abbrev M_X7_cut : MTy := (yX7_cut, cX7_cut, 5, (some .int), { frames := 3, cells := 0, slots := 0, locals := 70 })
theorem ok_X7_cut : OkV M_X7_cut RX7 2 := ⟨tb_874, tb_875, tb_66, tb_876, rfl, by decide, by decide, by decide +kernel⟩
abbrev M_X7_degreeOf : MTy := (yX7_degreeOf, cX7_degreeOf, 4, (some .int), { frames := 0, cells := 0, slots := 0, locals := 0 })
theorem ok_X7_degreeOf : OkV M_X7_degreeOf RX7 1 := ⟨tb_967, tb_49, tb_66, tb_968, rfl, by decide, by decide, by decide +kernel⟩
abbrev M_X7_diameter : MTy := (yX7_diameter, cX7_diameter, 2, (some .int), { frames := 4, cells := 0, slots := 0, locals := 95 })
theorem ok_X7_diameter : OkV M_X7_diameter RX7 1 := ⟨tb_910, tb_911, tb_66, tb_912, rfl, by decide, by decide, by decide +kernel⟩
abbrev M_X7_diameterEnd : MTy := (yX7_diameterEnd, cX7_diameterEnd, 6, (some .int), { frames := 4, cells := 0, slots := 0, locals := 95 })
theorem ok_X7_diameterEnd : OkV M_X7_diameterEnd RX7 2 := ⟨tb_918, tb_919, tb_66, tb_920, rfl, by decide, by decide, by decide +kernel⟩
abbrev M_X7_diameterOf : MTy := (yX7_diameterOf, cX7_diameterOf, 6, (some .int), { frames := 3, cells := 0, slots := 0, locals := 70 })
theorem ok_X7_diameterOf : OkV M_X7_diameterOf RX7 2 := ⟨tb_915, tb_42, tb_66, tb_916, rfl, by decide, by decide, by decide +kernel⟩
abbrev M_X7_distance : MTy := (yX7_distance, cX7_distance, 3, (some .int), { frames := 3, cells := 0, slots := 0, locals := 69 })
theorem ok_X7_distance : OkV M_X7_distance RX7 2 := ⟨tb_894, tb_895, tb_66, tb_896, rfl, by decide, by decide, by decide +kernel⟩
abbrev M_X7_eccentricity : MTy := (yX7_eccentricity, cX7_eccentricity, 2, (some .int), { frames := 3, cells := 0, slots := 0, locals := 70 })
theorem ok_X7_eccentricity : OkV M_X7_eccentricity RX7 1 := ⟨tb_902, tb_903, tb_66, tb_904, rfl, by decide, by decide, by decide +kernel⟩
abbrev M_X7_eccentricityOf : MTy := (yX7_eccentricityOf, cX7_eccentricityOf, 5, (some .int), { frames := 2, cells := 0, slots := 0, locals := 46 })
theorem ok_X7_eccentricityOf : OkV M_X7_eccentricityOf RX7 2 := ⟨tb_907, tb_41, tb_66, tb_908, rfl, by decide, by decide, by decide +kernel⟩
abbrev M_X7_edgeError : MTy := (yX7_edgeError, cX7_edgeError, 5, (some .int), { frames := 2, cells := 0, slots := 0, locals := 46 })
theorem ok_X7_edgeError : OkV M_X7_edgeError RX7 4 := ⟨tb_879, tb_40, tb_66, tb_880, rfl, by decide, by decide, by decide +kernel⟩
abbrev M_X7_edgeWeight : MTy := (yX7_edgeWeight, cX7_edgeWeight, 3, (some .int), { frames := 2, cells := 0, slots := 0, locals := 46 })
theorem ok_X7_edgeWeight : OkV M_X7_edgeWeight RX7 2 := ⟨tb_853, tb_854, tb_66, tb_855, rfl, by decide, by decide, by decide +kernel⟩
abbrev M_X7_edgesOf : MTy := (yX7_edgesOf, cX7_edgesOf, 3, (some .int), { frames := 0, cells := 0, slots := 0, locals := 0 })
theorem ok_X7_edgesOf : OkS M_X7_edgesOf 1 := ⟨tb_842, tb_66, tb_843, by decide, by decide, by decide +kernel⟩
abbrev M_X7_errorPosition : MTy := (yX7_errorPosition, cX7_errorPosition, 1, (some .int), { frames := 6, cells := 0, slots := 0, locals := 136 })
theorem ok_X7_errorPosition : OkV M_X7_errorPosition RX7 0 := ⟨tb_797, tb_798, tb_66, tb_799, rfl, by decide, by decide, by decide +kernel⟩
abbrev M_X7_expectedReach : MTy := (yX7_expectedReach, cX7_expectedReach, 9, (some .long), { frames := 2, cells := 0, slots := 0, locals := 46 })
theorem ok_X7_expectedReach : OkV M_X7_expectedReach RX7 2 := ⟨tb_998, tb_999, tb_66, tb_1000, rfl, by decide, by decide, by decide +kernel⟩
abbrev M_X7_farOf : MTy := (yX7_farOf, cX7_farOf, 4, (some .int), { frames := 2, cells := 0, slots := 0, locals := 46 })
theorem ok_X7_farOf : OkV M_X7_farOf RX7 3 := ⟨tb_822, tb_35, tb_66, tb_823, rfl, by decide, by decide, by decide +kernel⟩
abbrev M_X7_hundredThousands : MTy := (yX7_hundredThousands, cX7_hundredThousands, 4, (some .long), { frames := 0, cells := 0, slots := 0, locals := 0 })
theorem ok_X7_hundredThousands : OkS M_X7_hundredThousands 1 := ⟨tb_1024, tb_66, tb_1025, by decide, by decide, by decide +kernel⟩
abbrev M_X7_in : MTy := (yX7_in, cX7_in, 6, (some .boolean), { frames := 0, cells := 0, slots := 0, locals := 0 })
theorem ok_X7_in : OkS M_X7_in 3 := ⟨tb_790, tb_66, tb_791, by decide, by decide, by decide +kernel⟩
abbrev M_X7_init : MTy := (yX7_init, cX7_init, 2, none, { frames := 1, cells := 15, slots := 3280, locals := 20 })
theorem ok_X7_init : OkI M_X7_init 0 := ⟨tb_708, tb_66, tb_709, rfl, rfl, by decide, by decide, by decide +kernel⟩
abbrev M_X7_isOneTree : MTy := (yX7_isOneTree, cX7_isOneTree, 4, (some .boolean), { frames := 3, cells := 0, slots := 0, locals := 69 })
theorem ok_X7_isOneTree : OkV M_X7_isOneTree RX7 3 := ⟨tb_818, tb_34, tb_66, tb_819, rfl, by decide, by decide, by decide +kernel⟩
abbrev M_X7_isVertex : MTy := (yX7_isVertex, cX7_isVertex, 2, (some .boolean), { frames := 1, cells := 0, slots := 0, locals := 25 })
theorem ok_X7_isVertex : OkV M_X7_isVertex RX7 1 := ⟨tb_850, tb_37, tb_66, tb_851, rfl, by decide, by decide, by decide +kernel⟩
abbrev M_X7_join : MTy := (yX7_join, cX7_join, 4, none, { frames := 1, cells := 0, slots := 0, locals := 21 })
theorem ok_X7_join : OkS M_X7_join 4 := ⟨tb_832, tb_66, tb_833, by decide, by decide, by decide +kernel⟩
abbrev M_X7_layFar : MTy := (yX7_layFar, cX7_layFar, 6, none, { frames := 1, cells := 0, slots := 0, locals := 21 })
theorem ok_X7_layFar : OkV M_X7_layFar RX7 2 := ⟨tb_826, tb_36, tb_66, tb_827, rfl, by decide, by decide, by decide +kernel⟩
abbrev M_X7_leastOf : MTy := (yX7_leastOf, cX7_leastOf, 8, (some .int), { frames := 3, cells := 0, slots := 0, locals := 70 })
theorem ok_X7_leastOf : OkV M_X7_leastOf RX7 3 := ⟨tb_927, tb_43, tb_66, tb_928, rfl, by decide, by decide, by decide +kernel⟩
abbrev M_X7_liesBetween : MTy := (yX7_liesBetween, cX7_liesBetween, 5, (some .boolean), { frames := 3, cells := 0, slots := 0, locals := 69 })
theorem ok_X7_liesBetween : OkV M_X7_liesBetween RX7 3 := ⟨tb_947, tb_45, tb_66, tb_948, rfl, by decide, by decide, by decide +kernel⟩
abbrev M_X7_link : MTy := (yX7_link, cX7_link, 5, (some .int), { frames := 5, cells := 0, slots := 0, locals := 116 })
theorem ok_X7_link : OkV M_X7_link RX7 3 := ⟨tb_861, tb_862, tb_66, tb_863, rfl, by decide, by decide, by decide +kernel⟩
abbrev M_X7_linkError : MTy := (yX7_linkError, cX7_linkError, 5, (some .int), { frames := 4, cells := 0, slots := 0, locals := 92 })
theorem ok_X7_linkError : OkV M_X7_linkError RX7 4 := ⟨tb_866, tb_38, tb_66, tb_867, rfl, by decide, by decide, by decide +kernel⟩
abbrev M_X7_load : MTy := (yX7_load, cX7_load, 1, (some .int), { frames := 6, cells := 0, slots := 0, locals := 136 })
theorem ok_X7_load : OkV M_X7_load RX7 0 := ⟨tb_835, tb_836, tb_66, tb_837, rfl, by decide, by decide, by decide +kernel⟩
abbrev M_X7_many : MTy := (yX7_many, cX7_many, 3, (some .int), { frames := 0, cells := 0, slots := 0, locals := 0 })
theorem ok_X7_many : OkV M_X7_many RX7 0 := ⟨tb_959, tb_47, tb_66, tb_960, rfl, by decide, by decide, by decide +kernel⟩
abbrev M_X7_median : MTy := (yX7_median, cX7_median, 2, (some .int), { frames := 4, cells := 0, slots := 0, locals := 97 })
theorem ok_X7_median : OkV M_X7_median RX7 1 := ⟨tb_934, tb_935, tb_66, tb_936, rfl, by decide, by decide, by decide +kernel⟩
abbrev M_X7_meeting : MTy := (yX7_meeting, cX7_meeting, 5, (some .int), { frames := 4, cells := 0, slots := 0, locals := 93 })
theorem ok_X7_meeting : OkV M_X7_meeting RX7 3 := ⟨tb_942, tb_943, tb_66, tb_944, rfl, by decide, by decide, by decide +kernel⟩
abbrev M_X7_neighbour : MTy := (yX7_neighbour, cX7_neighbour, 4, (some .int), { frames := 0, cells := 0, slots := 0, locals := 0 })
theorem ok_X7_neighbour : OkV M_X7_neighbour RX7 2 := ⟨tb_979, tb_52, tb_66, tb_980, rfl, by decide, by decide, by decide +kernel⟩
abbrev M_X7_note : MTy := (yX7_note, cX7_note, 2, none, { frames := 0, cells := 0, slots := 0, locals := 0 })
theorem ok_X7_note : OkV M_X7_note RX7 0 := ⟨tb_871, tb_39, tb_66, tb_872, rfl, by decide, by decide, by decide +kernel⟩
abbrev M_X7_number : MTy := (yX7_number, cX7_number, 5, (some .int), { frames := 2, cells := 0, slots := 0, locals := 49 })
theorem ok_X7_number : OkV M_X7_number RX7 2 := ⟨tb_806, tb_31, tb_66, tb_807, rfl, by decide, by decide, by decide +kernel⟩
abbrev M_X7_observe : MTy := (yX7_observe, cX7_observe, 5, (some .int), { frames := 1, cells := 0, slots := 0, locals := 25 })
theorem ok_X7_observe : OkV M_X7_observe RX7 3 := ⟨tb_1005, tb_1006, tb_66, tb_1007, rfl, by decide, by decide, by decide +kernel⟩
abbrev M_X7_pathVertex : MTy := (yX7_pathVertex, cX7_pathVertex, 8, (some .int), { frames := 2, cells := 0, slots := 0, locals := 46 })
theorem ok_X7_pathVertex : OkV M_X7_pathVertex RX7 3 := ⟨tb_898, tb_899, tb_66, tb_900, rfl, by decide, by decide, by decide +kernel⟩
abbrev M_X7_possibleWeights : MTy := (yX7_possibleWeights, cX7_possibleWeights, 6, (some .int), { frames := 4, cells := 0, slots := 0, locals := 94 })
theorem ok_X7_possibleWeights : OkV M_X7_possibleWeights RX7 2 := ⟨tb_1011, tb_1012, tb_66, tb_1013, rfl, by decide, by decide, by decide +kernel⟩
abbrev M_X7_rake : MTy := (yX7_rake, cX7_rake, 5, none, { frames := 1, cells := 0, slots := 0, locals := 23 })
theorem ok_X7_rake : OkV M_X7_rake RX7 1 := ⟨tb_963, tb_48, tb_66, tb_964, rfl, by decide, by decide, by decide +kernel⟩
abbrev M_X7_randomChanges : MTy := (yX7_randomChanges, cX7_randomChanges, 12, (some .int), { frames := 4, cells := 0, slots := 0, locals := 95 })
theorem ok_X7_randomChanges : OkV M_X7_randomChanges RX7 2 := ⟨tb_1032, tb_1033, tb_66, tb_1034, rfl, by decide, by decide, by decide +kernel⟩
abbrev M_X7_readEdge : MTy := (yX7_readEdge, cX7_readEdge, 4, (some .boolean), { frames := 4, cells := 0, slots := 0, locals := 92 })
theorem ok_X7_readEdge : OkV M_X7_readEdge RX7 0 := ⟨tb_814, tb_33, tb_66, tb_815, rfl, by decide, by decide, by decide +kernel⟩
abbrev M_X7_readText : MTy := (yX7_readText, cX7_readText, 2, (some .int), { frames := 5, cells := 0, slots := 0, locals := 115 })
theorem ok_X7_readText : OkV M_X7_readText RX7 0 := ⟨tb_802, tb_30, tb_66, tb_803, rfl, by decide, by decide, by decide +kernel⟩
abbrev M_X7_removalRound : MTy := (yX7_removalRound, cX7_removalRound, 2, (some .int), { frames := 3, cells := 0, slots := 0, locals := 71 })
theorem ok_X7_removalRound : OkV M_X7_removalRound RX7 1 := ⟨tb_982, tb_983, tb_66, tb_984, rfl, by decide, by decide, by decide +kernel⟩
abbrev M_X7_removeVertex : MTy := (yX7_removeVertex, cX7_removeVertex, 4, none, { frames := 0, cells := 0, slots := 0, locals := 0 })
theorem ok_X7_removeVertex : OkV M_X7_removeVertex RX7 2 := ⟨tb_971, tb_50, tb_66, tb_972, rfl, by decide, by decide, by decide +kernel⟩
abbrev M_X7_restore : MTy := (yX7_restore, cX7_restore, 3, (some .int), { frames := 1, cells := 0, slots := 0, locals := 25 })
theorem ok_X7_restore : OkV M_X7_restore RX7 1 := ⟨tb_1043, tb_1044, tb_66, tb_1045, rfl, by decide, by decide, by decide +kernel⟩
abbrev M_X7_rounds : MTy := (yX7_rounds, cX7_rounds, 2, (some .int), { frames := 3, cells := 0, slots := 0, locals := 71 })
theorem ok_X7_rounds : OkV M_X7_rounds RX7 1 := ⟨tb_950, tb_951, tb_66, tb_952, rfl, by decide, by decide, by decide +kernel⟩
abbrev M_X7_runScript : MTy := (yX7_runScript, cX7_runScript, 6, (some .int), { frames := 6, cells := 0, slots := 0, locals := 140 })
theorem ok_X7_runScript : OkV M_X7_runScript RX7 2 := ⟨tb_1019, tb_1020, tb_66, tb_1021, rfl, by decide, by decide, by decide +kernel⟩
abbrev M_X7_save : MTy := (yX7_save, cX7_save, 3, (some .int), { frames := 1, cells := 0, slots := 0, locals := 25 })
theorem ok_X7_save : OkV M_X7_save RX7 1 := ⟨tb_1039, tb_1040, tb_66, tb_1041, rfl, by decide, by decide, by decide +kernel⟩
abbrev M_X7_setEdgeWeight : MTy := (yX7_setEdgeWeight, cX7_setEdgeWeight, 6, (some .int), { frames := 3, cells := 0, slots := 0, locals := 70 })
theorem ok_X7_setEdgeWeight : OkV M_X7_setEdgeWeight RX7 3 := ⟨tb_882, tb_883, tb_66, tb_884, rfl, by decide, by decide, by decide +kernel⟩
abbrev M_X7_setVertexWeight : MTy := (yX7_setVertexWeight, cX7_setVertexWeight, 4, (some .int), { frames := 2, cells := 0, slots := 0, locals := 46 })
theorem ok_X7_setVertexWeight : OkV M_X7_setVertexWeight RX7 2 := ⟨tb_886, tb_887, tb_66, tb_888, rfl, by decide, by decide, by decide +kernel⟩
abbrev M_X7_sign : MTy := (yX7_sign, cX7_sign, 5, (some .int), { frames := 1, cells := 0, slots := 0, locals := 25 })
theorem ok_X7_sign : OkV M_X7_sign RX7 3 := ⟨tb_810, tb_32, tb_66, tb_811, rfl, by decide, by decide, by decide +kernel⟩
abbrev M_X7_survivor : MTy := (yX7_survivor, cX7_survivor, 2, (some .int), { frames := 3, cells := 0, slots := 0, locals := 71 })
theorem ok_X7_survivor : OkV M_X7_survivor RX7 1 := ⟨tb_986, tb_987, tb_66, tb_988, rfl, by decide, by decide, by decide +kernel⟩
abbrev M_X7_treeOf : MTy := (yX7_treeOf, cX7_treeOf, 3, (some .int), { frames := 2, cells := 0, slots := 0, locals := 46 })
theorem ok_X7_treeOf : OkV M_X7_treeOf RX7 1 := ⟨tb_857, tb_858, tb_66, tb_859, rfl, by decide, by decide, by decide +kernel⟩
abbrev M_X7_undo : MTy := (yX7_undo, cX7_undo, 2, (some .int), { frames := 0, cells := 0, slots := 0, locals := 0 })
theorem ok_X7_undo : OkV M_X7_undo RX7 0 := ⟨tb_890, tb_891, tb_66, tb_892, rfl, by decide, by decide, by decide +kernel⟩
abbrev M_X7_vertexWeight : MTy := (yX7_vertexWeight, cX7_vertexWeight, 2, (some .int), { frames := 2, cells := 0, slots := 0, locals := 46 })
theorem ok_X7_vertexWeight : OkV M_X7_vertexWeight RX7 1 := ⟨tb_845, tb_846, tb_66, tb_847, rfl, by decide, by decide, by decide +kernel⟩
abbrev M_X7_weightWith : MTy := (yX7_weightWith, cX7_weightWith, 5, (some .int), { frames := 2, cells := 0, slots := 0, locals := 46 })
theorem ok_X7_weightWith : OkV M_X7_weightWith RX7 2 := ⟨tb_995, tb_53, tb_66, tb_996, rfl, by decide, by decide, by decide +kernel⟩
