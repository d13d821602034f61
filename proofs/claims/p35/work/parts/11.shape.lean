/-! the cells' facts -/
def Mn (G : Gx) : Prop := gK G = 327 ∧ ∀ j, gO G j = none
def isF (f : Nat) : Bool := f == 1 || (f == 30 || (f == 296 || (f == 311 || (decide (81 ≤ f) && (decide (f < 291) && ((f - 81) % 15 == 0))))))
def Fo (G : Gx) (f : Nat) : Prop := isF f = true ∧ f + 14 < gK G ∧ ∀ i, i < 15 → gO G (f + i) = none
def Sv (G : Gx) (s : Nat) : Prop := (s = 16 ∨ s = 45) ∧ Mn G
def Ia (G : Gx) (a n : Nat) : Prop := a < gK G ∧ ∀ r, cellR G a r = rI (gC G) n r
theorem vp_lt {i : Int32} {n : Nat} (h : vp_in i n) : i.toNatClampNeg < n := Nat.not_le.mp fun q => h (Or.inr q)
theorem isF_iff {f : Nat} (hf : isF f = true) : f = 1 ∨ f = 30 ∨ f = 296 ∨ f = 311 ∨ (81 ≤ f ∧ f < 291 ∧ (f - 81) % 15 = 0) := by
  unfold isF at hf
  simpa using hf
theorem cellAt_F {cs : ClassId × ClassId × ClassId × ClassId} {ad : Nat → Nat} {f i : Nat} {r : Nat → Int32} (hf : isF f = true) (hi : i < 15) : cellAt cs ad (f + i) r = cF cs ad f i r := by
  unfold cellAt
  rcases isF_iff hf with rfl | rfl | rfl | rfl | ⟨h1, h2, h3⟩
  · rw [if_neg (by omega), if_pos (by omega), show 1 + i - 1 = i by omega]
  · rw [if_neg (by omega), if_neg (by omega), if_neg (by omega), if_pos (by omega), show 30 + i - 30 = i by omega]
  · rw [if_neg (by omega), if_neg (by omega), if_neg (by omega), if_neg (by omega), if_neg (by omega), if_neg (by omega), if_neg (by omega), if_neg (by omega), if_neg (by omega), if_pos (by omega), show 296 + 15 * ((296 + i - 296) / 15) = 296 by omega, show (296 + i - 296) % 15 = i by omega]
  · rw [if_neg (by omega), if_neg (by omega), if_neg (by omega), if_neg (by omega), if_neg (by omega), if_neg (by omega), if_neg (by omega), if_neg (by omega), if_neg (by omega), if_pos (by omega), show 296 + 15 * ((311 + i - 296) / 15) = 311 by omega, show (311 + i - 296) % 15 = i by omega]
  · rw [if_neg (by omega), if_neg (by omega), if_neg (by omega), if_neg (by omega), if_neg (by omega), if_neg (by omega), if_neg (by omega), if_pos (by omega), show 81 + 15 * ((f + i - 81) / 15) = f by omega, show (f + i - 81) % 15 = i by omega]
theorem Fo_K {G : Gx} {f i : Nat} (h : Fo G f) (hi : i < 15) : f + i < gK G := by have := h.2.1; omega
theorem Fo_c {G : Gx} {f i : Nat} (h : Fo G f) (hi : i < 15) (r : Nat → Int32) : cellR G (f + i) r = cF (gC G) (gA G) f i r := by
  unfold cellR
  rw [h.2.2 i hi]
  exact cellAt_F h.1 hi
theorem Fo_K0 {G : Gx} {f : Nat} (h : Fo G f) : f < gK G := Fo_K (i := 0) h (by decide)
theorem Fo_c0 {G : Gx} {f : Nat} (h : Fo G f) (r : Nat → Int32) : cellR G f r = .inr (1, [.int (r 0), .ref (gA G (f + 1)), .ref (gA G (f + 2))]) := Fo_c (i := 0) h (by decide) r
theorem Fo_c1 {G : Gx} {f : Nat} (h : Fo G f) (r : Nat → Int32) : cellR G (f + 1) r = rI (gC G) 12 r := Fo_c (i := 1) h (by decide) r
theorem Fo_c2 {G : Gx} {f : Nat} (h : Fo G f) (r : Nat → Int32) : cellR G (f + 2) r = rR (gC G) 12 (fun k => if k < 12 then some (gA G (f + 3 + k)) else none) := Fo_c (i := 2) h (by decide) r
theorem Fo_K3 {G : Gx} {f k : Nat} (h : Fo G f) (hk : k < 12) : f + 3 + k < gK G := by have := h.2.1; omega
theorem Fo_c3 {G : Gx} {f k : Nat} (h : Fo G f) (hk : k < 12) (r : Nat → Int32) : cellR G (f + 3 + k) r = rI (gC G) 12 r := by
  rw [show f + 3 + k = f + (3 + k) by omega, Fo_c h (by omega)]
  unfold cF
  rw [if_neg (by omega), if_neg (by omega)]
theorem Fo_of {G : Gx} {f : Nat} (h : Mn G) (hf : isF f = true) : Fo G f := ⟨hf, by rw [h.1]; rcases isF_iff hf with rfl | rfl | rfl | rfl | ⟨h1, h2, h3⟩ <;> omega, fun i _ => h.2 _⟩
theorem Fo_hist {G : Gx} {k : Nat} (h : Mn G) (hk : k < 14) : Fo G (81 + 15 * k) := Fo_of h (by unfold isF; simp only [Bool.or_eq_true, Bool.and_eq_true, decide_eq_true_eq, beq_iff_eq]; omega)
theorem Fo_slot {G : Gx} {k : Nat} (h : Mn G) (hk : k < 2) : Fo G (296 + 15 * k) := Fo_of h (by unfold isF; simp only [Bool.or_eq_true, Bool.and_eq_true, decide_eq_true_eq, beq_iff_eq]; omega)
theorem mK {G : Gx} {j : Nat} (h : Mn G) (hj : j < 327) : j < gK G := by rw [h.1]; exact hj
theorem mC {G : Gx} (h : Mn G) (j : Nat) (r : Nat → Int32) : cellR G j r = cellAt (gC G) (gA G) j r := by
  unfold cellR
  rw [h.2 j]
theorem Sv_K {G : Gx} {s i : Nat} (h : Sv G s) (hi : i < 14) : s + i < gK G := mK h.2 (by rcases h.1 with rfl | rfl <;> omega)
theorem Sv_c {G : Gx} {s i : Nat} (h : Sv G s) (hi : i < 14) (r : Nat → Int32) : cellR G (s + i) r = cS (gC G) (gA G) (s - 15) s i r := by
  rw [mC h.2]
  unfold cellAt
  rcases h.1 with rfl | rfl
  · rw [if_neg (by omega), if_neg (by omega), if_pos (by omega), show 16 + i - 16 = i by omega]
  · rw [if_neg (by omega), if_neg (by omega), if_neg (by omega), if_neg (by omega), if_pos (by omega), show 45 + i - 45 = i by omega]
theorem Sv_K0 {G : Gx} {s : Nat} (h : Sv G s) : s < gK G := Sv_K (i := 0) h (by decide)
theorem Sv_c0 {G : Gx} {s : Nat} (h : Sv G s) (r : Nat → Int32) : cellR G s r = .inr (5, [.ref (gA G (s - 15)), .int (r 1), .ref (gA G (s + 1))]) := Sv_c (i := 0) h (by decide) r
theorem Sv_c1 {G : Gx} {s : Nat} (h : Sv G s) (r : Nat → Int32) : cellR G (s + 1) r = rR (gC G) 12 (fun k => if k < 12 then some (gA G (s + 2 + k)) else none) := Sv_c (i := 1) h (by decide) r
theorem Sv_K3 {G : Gx} {s k : Nat} (h : Sv G s) (hk : k < 12) : s + 2 + k < gK G := by rw [Nat.add_assoc]; exact Sv_K h (by omega)
theorem Sv_c3 {G : Gx} {s k : Nat} (h : Sv G s) (hk : k < 12) (r : Nat → Int32) : cellR G (s + 2 + k) r = rI (gC G) 12 r := by
  rw [show s + 2 + k = s + (2 + k) by omega, Sv_c h (by omega)]
  unfold cS
  rw [if_neg (by omega), if_neg (by omega)]
theorem Sv_Fo {G : Gx} {s : Nat} (h : Sv G s) : Fo G (s - 15) := Fo_of h.2 (by rcases h.1 with rfl | rfl <;> decide)
theorem ro_K {G : Gx} {k : Nat} (h : Mn G) (hk : k < 12) : 64 + k < gK G := mK h (by omega)
theorem ro_c {G : Gx} {k : Nat} (h : Mn G) (hk : k < 12) (r : Nat → Int32) : cellR G (64 + k) r = rI (gC G) 12 r := by
  rw [mC h]
  unfold cellAt cC
  rw [if_neg (by omega), if_neg (by omega), if_neg (by omega), if_neg (by omega), if_neg (by omega), if_pos (by omega), if_neg (by omega), if_neg (by omega), if_neg (by omega), if_neg (by omega)]
theorem mc_0 {G : Gx} (h : Mn G) (r : Nat → Int32) : cellR G 0 r = .inr (6, [.ref (gA G 1), .ref (gA G 16), .ref (gA G 30), .ref (gA G 45), .ref (gA G 59), .ref (gA G 76), .ref (gA G 79), .ref (gA G 291), .ref (gA G 295), .ref (gA G 326)]) := (mC h 0 r).trans rfl
theorem mc_59 {G : Gx} (h : Mn G) (r : Nat → Int32) : cellR G 59 r = .inr (0, [.int (r 0), .int (r 1), .int (r 2), .ref (gA G 60), .ref (gA G 61), .ref (gA G 62), .ref (gA G 63)]) := (mC h 59 r).trans rfl
theorem mc_60 {G : Gx} (h : Mn G) (r : Nat → Int32) : cellR G 60 r = rZ (gC G) 12 r := (mC h 60 r).trans rfl
theorem mc_61 {G : Gx} (h : Mn G) (r : Nat → Int32) : cellR G 61 r = rZ (gC G) 12 r := (mC h 61 r).trans rfl
theorem mc_62 {G : Gx} (h : Mn G) (r : Nat → Int32) : cellR G 62 r = rI (gC G) 12 r := (mC h 62 r).trans rfl
theorem mc_63 {G : Gx} (h : Mn G) (r : Nat → Int32) : cellR G 63 r = rR (gC G) 12 (fun k => if k < 12 then some (gA G (64 + k)) else none) := (mC h 63 r).trans rfl
theorem mc_76 {G : Gx} (h : Mn G) (r : Nat → Int32) : cellR G 76 r = .inr (4, [.int (r 0), .ref (gA G 77), .int (r 2), .ref (gA G 78)]) := (mC h 76 r).trans rfl
theorem mc_77 {G : Gx} (h : Mn G) (r : Nat → Int32) : cellR G 77 r = rI (gC G) 80 r := (mC h 77 r).trans rfl
theorem mc_78 {G : Gx} (h : Mn G) (r : Nat → Int32) : cellR G 78 r = rI (gC G) 12 r := (mC h 78 r).trans rfl
theorem mc_79 {G : Gx} (h : Mn G) (r : Nat → Int32) : cellR G 79 r = .inr (2, [.ref (gA G 80), .int (r 1), .int (r 2)]) := (mC h 79 r).trans rfl
theorem mc_80 {G : Gx} (h : Mn G) (r : Nat → Int32) : cellR G 80 r = rF (gC G) 14 (fun k => if k < 14 then some (gA G (81 + 15 * k)) else none) := (mC h 80 r).trans rfl
theorem mc_291 {G : Gx} (h : Mn G) (r : Nat → Int32) : cellR G 291 r = .inr (3, [.ref (gA G 292), .ref (gA G 293), .ref (gA G 294), .int (r 3), .int (r 4)]) := (mC h 291 r).trans rfl
theorem mc_292 {G : Gx} (h : Mn G) (r : Nat → Int32) : cellR G 292 r = rI (gC G) 6 r := (mC h 292 r).trans rfl
theorem mc_293 {G : Gx} (h : Mn G) (r : Nat → Int32) : cellR G 293 r = rI (gC G) 6 r := (mC h 293 r).trans rfl
theorem mc_294 {G : Gx} (h : Mn G) (r : Nat → Int32) : cellR G 294 r = rI (gC G) 6 r := (mC h 294 r).trans rfl
theorem mc_295 {G : Gx} (h : Mn G) (r : Nat → Int32) : cellR G 295 r = rF (gC G) 2 (fun k => if k < 2 then some (gA G (296 + 15 * k)) else none) := (mC h 295 r).trans rfl
theorem mc_326 {G : Gx} (h : Mn G) (r : Nat → Int32) : cellR G 326 r = rZ (gC G) 2 r := (mC h 326 r).trans rfl
def M2 (G : Gx) : Prop := gK G = 654 ∧ ∀ j, gO G j = none
theorem mC2 {G : Gx} (h : M2 G) (j : Nat) (r : Nat → Int32) : cellR G j r = cellAt (gC G) (gA G) j r := by
  unfold cellR
  rw [h.2 j]
theorem mK2 {G : Gx} {j : Nat} (h : M2 G) (hj : j < 654) : j < gK G := by rw [h.1]; exact hj
theorem m2_0 {G : Gx} (h : M2 G) (r : Nat → Int32) : cellR G 0 r = .inr (6, [.ref (gA G 1), .ref (gA G 16), .ref (gA G 30), .ref (gA G 45), .ref (gA G 59), .ref (gA G 76), .ref (gA G 79), .ref (gA G 291), .ref (gA G 295), .ref (gA G 326)]) := (mC2 h 0 r).trans rfl
theorem m2_327 {G : Gx} (h : M2 G) (r : Nat → Int32) : cellR G 327 r = .inr (6, [.ref (gA G 328), .ref (gA G 343), .ref (gA G 357), .ref (gA G 372), .ref (gA G 386), .ref (gA G 403), .ref (gA G 406), .ref (gA G 618), .ref (gA G 622), .ref (gA G 653)]) := (mC2 h 327 r).trans rfl
/-! the methods: name, code, locals, answer, room; what the tables say of each -/
abbrev M_J7_fill_53178 : MTy := (yJ7_fill_53178, cJ7_fill_53178, 4, none, { frames := 0, cells := 0, slots := 0, locals := 0 })
theorem ok_J7_fill_53178 : OkS M_J7_fill_53178 2 := ⟨tb_72, tb_34, tb_73, by decide, by decide, by decide +kernel⟩
abbrev M_L_act : MTy := (yL_act, cL_act, 3, (some .int), { frames := 7, cells := 0, slots := 0, locals := 165 })
theorem ok_L_act : OkS M_L_act 3 := ⟨tb_633, tb_30, tb_634, by decide, by decide, by decide +kernel⟩
abbrev M_L_ahead : MTy := (yL_ahead, cL_ahead, 15, (some .boolean), { frames := 7, cells := 0, slots := 0, locals := 163 })
theorem ok_L_ahead : OkS M_L_ahead 2 := ⟨tb_767, tb_30, tb_768, by decide, by decide, by decide +kernel⟩
abbrev M_L_alike : MTy := (yL_alike, cL_alike, 4, (some .boolean), { frames := 7, cells := 0, slots := 0, locals := 163 })
theorem ok_L_alike : OkS M_L_alike 2 := ⟨tb_745, tb_30, tb_746, by decide, by decide, by decide +kernel⟩
abbrev M_L_built : MTy := (yL_built, cL_built, 23, (some .boolean), { frames := 7, cells := 0, slots := 0, locals := 163 })
theorem ok_L_built : OkS M_L_built 2 := ⟨tb_760, tb_30, tb_761, by decide, by decide, by decide +kernel⟩
abbrev M_L_cell : MTy := (yL_cell, cL_cell, 2, (some .int), { frames := 0, cells := 0, slots := 0, locals := 0 })
theorem ok_L_cell : OkS M_L_cell 2 := ⟨tb_224, tb_30, tb_225, by decide, by decide, by decide +kernel⟩
abbrev M_L_errors : MTy := (yL_errors, cL_errors, 3, (some .boolean), { frames := 7, cells := 0, slots := 0, locals := 163 })
theorem ok_L_errors : OkS M_L_errors 1 := ⟨tb_229, tb_30, tb_230, by decide, by decide, by decide +kernel⟩
abbrev M_L_load : MTy := (yL_load, cL_load, 8, (some .int), { frames := 6, cells := 0, slots := 0, locals := 138 })
theorem ok_L_load : OkS M_L_load 3 := ⟨tb_636, tb_30, tb_637, by decide, by decide, by decide +kernel⟩
abbrev M_L_now : MTy := (yL_now, cL_now, 5, (some .long), { frames := 4, cells := 0, slots := 0, locals := 88 })
theorem ok_L_now : OkS M_L_now 1 := ⟨tb_748, tb_30, tb_749, by decide, by decide, by decide +kernel⟩
abbrev M_L_two : MTy := (yL_two, cL_two, 2, (some .int), { frames := 2, cells := 0, slots := 0, locals := 42 })
theorem ok_L_two : OkS M_L_two 2 := ⟨tb_647, tb_30, tb_648, by decide, by decide, by decide +kernel⟩
abbrev M_L_vertices : MTy := (yL_vertices, cL_vertices, 2, (some .int), { frames := 3, cells := 0, slots := 0, locals := 63 })
theorem ok_L_vertices : OkS M_L_vertices 1 := ⟨tb_232, tb_30, tb_233, by decide, by decide, by decide +kernel⟩
abbrev M_X0_bypass : MTy := (yX0_bypass, cX0_bypass, 4, none, { frames := 1, cells := 0, slots := 0, locals := 23 })
theorem ok_X0_bypass : OkV M_X0_bypass RX0 1 := ⟨tb_497, tb_13, tb_36, tb_498, rfl, by decide, by decide, by decide +kernel⟩
abbrev M_X0_compress : MTy := (yX0_compress, cX0_compress, 2, none, { frames := 2, cells := 0, slots := 0, locals := 46 })
theorem ok_X0_compress : OkV M_X0_compress RX0 0 := ⟨tb_488, tb_11, tb_36, tb_489, rfl, by decide, by decide, by decide +kernel⟩
abbrev M_X0_contract : MTy := (yX0_contract, cX0_contract, 3, none, { frames := 3, cells := 0, slots := 0, locals := 67 })
theorem ok_X0_contract : OkV M_X0_contract RX0 2 := ⟨tb_449, tb_450, tb_36, tb_451, rfl, by decide, by decide, by decide +kernel⟩
abbrev M_X0_copyEdges : MTy := (yX0_copyEdges, cX0_copyEdges, 4, none, { frames := 2, cells := 0, slots := 0, locals := 44 })
theorem ok_X0_copyEdges : OkV M_X0_copyEdges RX0 1 := ⟨tb_454, tb_3, tb_36, tb_455, rfl, by decide, by decide, by decide +kernel⟩
abbrev M_X0_degreeOf : MTy := (yX0_degreeOf, cX0_degreeOf, 4, (some .int), { frames := 0, cells := 0, slots := 0, locals := 0 })
theorem ok_X0_degreeOf : OkV M_X0_degreeOf RX0 1 := ⟨tb_484, tb_10, tb_36, tb_485, rfl, by decide, by decide, by decide +kernel⟩
abbrev M_X0_gatherNeighbours : MTy := (yX0_gatherNeighbours, cX0_gatherNeighbours, 3, none, { frames := 0, cells := 0, slots := 0, locals := 0 })
theorem ok_X0_gatherNeighbours : OkV M_X0_gatherNeighbours RX0 0 := ⟨tb_468, tb_6, tb_36, tb_469, rfl, by decide, by decide, by decide +kernel⟩
abbrev M_X0_gatherTree : MTy := (yX0_gatherTree, cX0_gatherTree, 3, none, { frames := 1, cells := 0, slots := 0, locals := 22 })
theorem ok_X0_gatherTree : OkV M_X0_gatherTree RX0 1 := ⟨tb_460, tb_4, tb_36, tb_461, rfl, by decide, by decide, by decide +kernel⟩
abbrev M_X0_init : MTy := (yX0_init, cX0_init, 1, none, { frames := 1, cells := 16, slots := 192, locals := 20 })
theorem ok_X0_init : OkI M_X0_init 0 := ⟨tb_105, tb_36, tb_106, rfl, rfl, by decide, by decide, by decide +kernel⟩
abbrev M_X0_isVertex : MTy := (yX0_isVertex, cX0_isVertex, 2, (some .boolean), { frames := 0, cells := 0, slots := 0, locals := 0 })
theorem ok_X0_isVertex : OkV M_X0_isVertex RX0 1 := ⟨tb_464, tb_5, tb_36, tb_465, rfl, by decide, by decide, by decide +kernel⟩
abbrev M_X0_lastVertex : MTy := (yX0_lastVertex, cX0_lastVertex, 2, (some .int), { frames := 0, cells := 0, slots := 0, locals := 0 })
theorem ok_X0_lastVertex : OkV M_X0_lastVertex RX0 0 := ⟨tb_520, tb_521, tb_36, tb_522, rfl, by decide, by decide, by decide +kernel⟩
abbrev M_X0_makeEdgesOld : MTy := (yX0_makeEdgesOld, cX0_makeEdgesOld, 3, none, { frames := 1, cells := 0, slots := 0, locals := 21 })
theorem ok_X0_makeEdgesOld : OkV M_X0_makeEdgesOld RX0 0 := ⟨tb_492, tb_12, tb_36, tb_493, rfl, by decide, by decide, by decide +kernel⟩
abbrev M_X0_neighbourAfter : MTy := (yX0_neighbourAfter, cX0_neighbourAfter, 4, (some .int), { frames := 0, cells := 0, slots := 0, locals := 0 })
theorem ok_X0_neighbourAfter : OkV M_X0_neighbourAfter RX0 2 := ⟨tb_501, tb_14, tb_36, tb_502, rfl, by decide, by decide, by decide +kernel⟩
abbrev M_X0_rake : MTy := (yX0_rake, cX0_rake, 2, none, { frames := 2, cells := 0, slots := 0, locals := 43 })
theorem ok_X0_rake : OkV M_X0_rake RX0 0 := ⟨tb_472, tb_7, tb_36, tb_473, rfl, by decide, by decide, by decide +kernel⟩
abbrev M_X0_remove : MTy := (yX0_remove, cX0_remove, 3, none, { frames := 0, cells := 0, slots := 0, locals := 0 })
theorem ok_X0_remove : OkV M_X0_remove RX0 1 := ⟨tb_480, tb_9, tb_36, tb_481, rfl, by decide, by decide, by decide +kernel⟩
abbrev M_X0_removeGreatest : MTy := (yX0_removeGreatest, cX0_removeGreatest, 2, none, { frames := 1, cells := 0, slots := 0, locals := 22 })
theorem ok_X0_removeGreatest : OkV M_X0_removeGreatest RX0 0 := ⟨tb_476, tb_8, tb_36, tb_477, rfl, by decide, by decide, by decide +kernel⟩
abbrev M_X0_roundCount : MTy := (yX0_roundCount, cX0_roundCount, 1, (some .int), { frames := 0, cells := 0, slots := 0, locals := 0 })
theorem ok_X0_roundCount : OkV M_X0_roundCount RX0 0 := ⟨tb_504, tb_505, tb_36, tb_506, rfl, by decide, by decide, by decide +kernel⟩
abbrev M_X0_roundOf : MTy := (yX0_roundOf, cX0_roundOf, 2, (some .int), { frames := 1, cells := 0, slots := 0, locals := 21 })
theorem ok_X0_roundOf : OkV M_X0_roundOf RX0 1 := ⟨tb_512, tb_513, tb_36, tb_514, rfl, by decide, by decide, by decide +kernel⟩
abbrev M_X1_become : MTy := (yX1_become, cX1_become, 3, none, { frames := 1, cells := 0, slots := 0, locals := 26 })
theorem ok_X1_become : OkV M_X1_become RX1 1 := ⟨tb_321, tb_322, tb_32, tb_323, rfl, by decide, by decide, by decide +kernel⟩
abbrev M_X1_edgeBetween : MTy := (yX1_edgeBetween, cX1_edgeBetween, 3, (some .int), { frames := 1, cells := 0, slots := 0, locals := 22 })
theorem ok_X1_edgeBetween : OkV M_X1_edgeBetween RX1 2 := ⟨tb_272, tb_273, tb_32, tb_274, rfl, by decide, by decide, by decide +kernel⟩
abbrev M_X1_edgeCount : MTy := (yX1_edgeCount, cX1_edgeCount, 4, (some .int), { frames := 3, cells := 0, slots := 0, locals := 66 })
theorem ok_X1_edgeCount : OkV M_X1_edgeCount RX1 0 := ⟨tb_333, tb_334, tb_32, tb_335, rfl, by decide, by decide, by decide +kernel⟩
abbrev M_X1_hasEdge : MTy := (yX1_hasEdge, cX1_hasEdge, 3, (some .boolean), { frames := 2, cells := 0, slots := 0, locals := 44 })
theorem ok_X1_hasEdge : OkV M_X1_hasEdge RX1 2 := ⟨tb_268, tb_269, tb_32, tb_270, rfl, by decide, by decide, by decide +kernel⟩
abbrev M_X1_hasVertex : MTy := (yX1_hasVertex, cX1_hasVertex, 2, (some .boolean), { frames := 0, cells := 0, slots := 0, locals := 0 })
theorem ok_X1_hasVertex : OkV M_X1_hasVertex RX1 1 := ⟨tb_239, tb_240, tb_32, tb_241, rfl, by decide, by decide, by decide +kernel⟩
abbrev M_X1_hasVertices : MTy := (yX1_hasVertices, cX1_hasVertices, 3, (some .boolean), { frames := 0, cells := 0, slots := 0, locals := 0 })
theorem ok_X1_hasVertices : OkV M_X1_hasVertices RX1 2 := ⟨tb_264, tb_265, tb_32, tb_266, rfl, by decide, by decide, by decide +kernel⟩
abbrev M_X1_init : MTy := (yX1_init, cX1_init, 1, none, { frames := 2, cells := 14, slots := 168, locals := 45 })
theorem ok_X1_init : OkI M_X1_init 0 := ⟨tb_56, tb_32, tb_57, rfl, rfl, by decide, by decide, by decide +kernel⟩
abbrev M_X1_putEdge : MTy := (yX1_putEdge, cX1_putEdge, 4, none, { frames := 1, cells := 0, slots := 0, locals := 22 })
theorem ok_X1_putEdge : OkV M_X1_putEdge RX1 3 := ⟨tb_329, tb_330, tb_32, tb_331, rfl, by decide, by decide, by decide +kernel⟩
abbrev M_X1_putWeight : MTy := (yX1_putWeight, cX1_putWeight, 3, none, { frames := 1, cells := 0, slots := 0, locals := 21 })
theorem ok_X1_putWeight : OkV M_X1_putWeight RX1 2 := ⟨tb_353, tb_354, tb_32, tb_355, rfl, by decide, by decide, by decide +kernel⟩
abbrev M_X1_reset : MTy := (yX1_reset, cX1_reset, 3, none, { frames := 1, cells := 0, slots := 0, locals := 23 })
theorem ok_X1_reset : OkV M_X1_reset RX1 1 := ⟨tb_62, tb_63, tb_32, tb_64, rfl, by decide, by decide, by decide +kernel⟩
abbrev M_X1_vertices : MTy := (yX1_vertices, cX1_vertices, 1, (some .int), { frames := 0, cells := 0, slots := 0, locals := 0 })
theorem ok_X1_vertices : OkV M_X1_vertices RX1 0 := ⟨tb_286, tb_287, tb_32, tb_288, rfl, by decide, by decide, by decide +kernel⟩
abbrev M_X1_weightOf : MTy := (yX1_weightOf, cX1_weightOf, 2, (some .int), { frames := 1, cells := 0, slots := 0, locals := 21 })
theorem ok_X1_weightOf : OkV M_X1_weightOf RX1 1 := ⟨tb_243, tb_244, tb_32, tb_245, rfl, by decide, by decide, by decide +kernel⟩
abbrev M_X2_forget : MTy := (yX2_forget, cX2_forget, 1, none, { frames := 0, cells := 0, slots := 0, locals := 0 })
theorem ok_X2_forget : OkV M_X2_forget RX2 0 := ⟨tb_629, tb_630, tb_38, tb_631, rfl, by decide, by decide, by decide +kernel⟩
abbrev M_X2_init : MTy := (yX2_init, cX2_init, 2, none, { frames := 3, cells := 211, slots := 2408, locals := 65 })
theorem ok_X2_init : OkI M_X2_init 0 := ⟨tb_154, tb_38, tb_155, rfl, rfl, by decide, by decide, by decide +kernel⟩
abbrev M_X2_remember : MTy := (yX2_remember, cX2_remember, 2, none, { frames := 2, cells := 0, slots := 0, locals := 48 })
theorem ok_X2_remember : OkV M_X2_remember RX2 1 := ⟨tb_317, tb_318, tb_38, tb_319, rfl, by decide, by decide, by decide +kernel⟩
abbrev M_X2_size : MTy := (yX2_size, cX2_size, 1, (some .int), { frames := 0, cells := 0, slots := 0, locals := 0 })
theorem ok_X2_size : OkV M_X2_size RX2 0 := ⟨tb_740, tb_741, tb_38, tb_742, rfl, by decide, by decide, by decide +kernel⟩
abbrev M_X2_takeBack : MTy := (yX2_takeBack, cX2_takeBack, 2, (some .boolean), { frames := 2, cells := 0, slots := 0, locals := 48 })
theorem ok_X2_takeBack : OkV M_X2_takeBack RX2 1 := ⟨tb_736, tb_737, tb_38, tb_738, rfl, by decide, by decide, by decide +kernel⟩
abbrev M_X3_countWeights : MTy := (yX3_countWeights, cX3_countWeights, 9, (some .int), { frames := 3, cells := 0, slots := 0, locals := 71 })
theorem ok_X3_countWeights : OkV M_X3_countWeights RX3 3 := ⟨tb_568, tb_569, tb_39, tb_570, rfl, by decide, by decide, by decide +kernel⟩
abbrev M_X3_init : MTy := (yX3_init, cX3_init, 1, none, { frames := 1, cells := 3, slots := 18, locals := 20 })
theorem ok_X3_init : OkI M_X3_init 0 := ⟨tb_173, tb_39, tb_174, rfl, rfl, by decide, by decide, by decide +kernel⟩
abbrev M_X3_store : MTy := (yX3_store, cX3_store, 4, (some .int), { frames := 1, cells := 0, slots := 0, locals := 21 })
theorem ok_X3_store : OkV M_X3_store RX3 3 := ⟨tb_559, tb_560, tb_39, tb_561, rfl, by decide, by decide, by decide +kernel⟩
abbrev M_X4_empty : MTy := (yX4_empty, cX4_empty, 1, none, { frames := 0, cells := 0, slots := 0, locals := 0 })
theorem ok_X4_empty : OkV M_X4_empty RX4 0 := ⟨tb_643, tb_644, tb_37, tb_645, rfl, by decide, by decide, by decide +kernel⟩
abbrev M_X4_init : MTy := (yX4_init, cX4_init, 1, none, { frames := 1, cells := 2, slots := 92, locals := 20 })
theorem ok_X4_init : OkI M_X4_init 0 := ⟨tb_135, tb_37, tb_136, rfl, rfl, by decide, by decide, by decide +kernel⟩
abbrev M_X4_joinTrees : MTy := (yX4_joinTrees, cX4_joinTrees, 4, none, { frames := 0, cells := 0, slots := 0, locals := 0 })
theorem ok_X4_joinTrees : OkV M_X4_joinTrees RX4 2 := ⟨tb_725, tb_28, tb_37, tb_726, rfl, by decide, by decide, by decide +kernel⟩
abbrev M_X4_put : MTy := (yX4_put, cX4_put, 2, (some .boolean), { frames := 0, cells := 0, slots := 0, locals := 0 })
theorem ok_X4_put : OkV M_X4_put RX4 1 := ⟨tb_252, tb_253, tb_37, tb_254, rfl, by decide, by decide, by decide +kernel⟩
abbrev M_X4_readInto : MTy := (yX4_readInto, cX4_readInto, 3, (some .int), { frames := 4, cells := 0, slots := 0, locals := 96 })
theorem ok_X4_readInto : OkV M_X4_readInto RX4 1 := ⟨tb_696, tb_697, tb_37, tb_698, rfl, by decide, by decide, by decide +kernel⟩
abbrev M_X4_size : MTy := (yX4_size, cX4_size, 1, (some .int), { frames := 0, cells := 0, slots := 0, locals := 0 })
theorem ok_X4_size : OkV M_X4_size RX4 0 := ⟨tb_256, tb_257, tb_37, tb_258, rfl, by decide, by decide, by decide +kernel⟩
abbrev M_X4_take : MTy := (yX4_take, cX4_take, 4, (some .int), { frames := 0, cells := 0, slots := 0, locals := 0 })
theorem ok_X4_take : OkV M_X4_take RX4 2 := ⟨tb_701, tb_23, tb_37, tb_702, rfl, by decide, by decide, by decide +kernel⟩
abbrev M_X4_takeEdge : MTy := (yX4_takeEdge, cX4_takeEdge, 6, (some .boolean), { frames := 2, cells := 0, slots := 0, locals := 49 })
theorem ok_X4_takeEdge : OkV M_X4_takeEdge RX4 1 := ⟨tb_720, tb_27, tb_37, tb_721, rfl, by decide, by decide, by decide +kernel⟩
abbrev M_X4_takeEdges : MTy := (yX4_takeEdges, cX4_takeEdges, 3, (some .boolean), { frames := 3, cells := 0, slots := 0, locals := 74 })
theorem ok_X4_takeEdges : OkV M_X4_takeEdges RX4 1 := ⟨tb_716, tb_26, tb_37, tb_717, rfl, by decide, by decide, by decide +kernel⟩
abbrev M_X4_takeNumber : MTy := (yX4_takeNumber, cX4_takeNumber, 7, (some .int), { frames := 1, cells := 0, slots := 0, locals := 23 })
theorem ok_X4_takeNumber : OkV M_X4_takeNumber RX4 2 := ⟨tb_705, tb_24, tb_37, tb_706, rfl, by decide, by decide, by decide +kernel⟩
abbrev M_X4_takeWeights : MTy := (yX4_takeWeights, cX4_takeWeights, 4, (some .boolean), { frames := 2, cells := 0, slots := 0, locals := 49 })
theorem ok_X4_takeWeights : OkV M_X4_takeWeights RX4 1 := ⟨tb_710, tb_25, tb_37, tb_711, rfl, by decide, by decide, by decide +kernel⟩
abbrev M_X5_between : MTy := (yX5_between, cX5_between, 3, (some .int), { frames := 0, cells := 0, slots := 0, locals := 0 })
theorem ok_X5_between : OkV M_X5_between RX5 2 := ⟨tb_305, tb_306, tb_35, tb_307, rfl, by decide, by decide, by decide +kernel⟩
abbrev M_X5_chanceOfPath : MTy := (yX5_chanceOfPath, cX5_chanceOfPath, 8, (some .long), { frames := 4, cells := 0, slots := 0, locals := 89 })
theorem ok_X5_chanceOfPath : OkV M_X5_chanceOfPath RX5 3 := ⟨tb_548, tb_16, tb_35, tb_549, rfl, by decide, by decide, by decide +kernel⟩
abbrev M_X5_cheapestOf : MTy := (yX5_cheapestOf, cX5_cheapestOf, 5, (some .int), { frames := 3, cells := 0, slots := 0, locals := 67 })
theorem ok_X5_cheapestOf : OkV M_X5_cheapestOf RX5 1 := ⟨tb_419, tb_420, tb_35, tb_421, rfl, by decide, by decide, by decide +kernel⟩
abbrev M_X5_edgeOf : MTy := (yX5_edgeOf, cX5_edgeOf, 3, (some .int), { frames := 2, cells := 0, slots := 0, locals := 44 })
theorem ok_X5_edgeOf : OkV M_X5_edgeOf RX5 2 := ⟨tb_578, tb_579, tb_35, tb_580, rfl, by decide, by decide, by decide +kernel⟩
abbrev M_X5_evenestEdge : MTy := (yX5_evenestEdge, cX5_evenestEdge, 6, (some .int), { frames := 3, cells := 0, slots := 0, locals := 69 })
theorem ok_X5_evenestEdge : OkV M_X5_evenestEdge RX5 1 := ⟨tb_528, tb_529, tb_35, tb_530, rfl, by decide, by decide, by decide +kernel⟩
abbrev M_X5_extendOver : MTy := (yX5_extendOver, cX5_extendOver, 5, none, { frames := 1, cells := 0, slots := 0, locals := 21 })
theorem ok_X5_extendOver : OkV M_X5_extendOver RX5 2 := ⟨tb_293, tb_0, tb_35, tb_294, rfl, by decide, by decide, by decide +kernel⟩
abbrev M_X5_firstFarthest : MTy := (yX5_firstFarthest, cX5_firstFarthest, 6, (some .int), { frames := 1, cells := 0, slots := 0, locals := 22 })
theorem ok_X5_firstFarthest : OkV M_X5_firstFarthest RX5 1 := ⟨tb_383, tb_384, tb_35, tb_385, rfl, by decide, by decide, by decide +kernel⟩
abbrev M_X5_firstWideEnd : MTy := (yX5_firstWideEnd, cX5_firstWideEnd, 5, (some .int), { frames := 3, cells := 0, slots := 0, locals := 68 })
theorem ok_X5_firstWideEnd : OkV M_X5_firstWideEnd RX5 1 := ⟨tb_395, tb_396, tb_35, tb_397, rfl, by decide, by decide, by decide +kernel⟩
abbrev M_X5_goesOver : MTy := (yX5_goesOver, cX5_goesOver, 8, (some .boolean), { frames := 2, cells := 0, slots := 0, locals := 44 })
theorem ok_X5_goesOver : OkV M_X5_goesOver RX5 4 := ⟨tb_574, tb_575, tb_35, tb_576, rfl, by decide, by decide, by decide +kernel⟩
abbrev M_X5_greatestFrom : MTy := (yX5_greatestFrom, cX5_greatestFrom, 2, (some .int), { frames := 2, cells := 0, slots := 0, locals := 47 })
theorem ok_X5_greatestFrom : OkV M_X5_greatestFrom RX5 1 := ⟨tb_379, tb_380, tb_35, tb_381, rfl, by decide, by decide, by decide +kernel⟩
abbrev M_X5_heavierPart : MTy := (yX5_heavierPart, cX5_heavierPart, 6, (some .int), { frames := 2, cells := 0, slots := 0, locals := 44 })
theorem ok_X5_heavierPart : OkV M_X5_heavierPart RX5 2 := ⟨tb_533, tb_15, tb_35, tb_534, rfl, by decide, by decide, by decide +kernel⟩
abbrev M_X5_init : MTy := (yX5_init, cX5_init, 2, none, { frames := 1, cells := 13, slots := 156, locals := 20 })
theorem ok_X5_init : OkI M_X5_init 1 := ⟨tb_88, tb_35, tb_89, rfl, rfl, by decide, by decide, by decide +kernel⟩
abbrev M_X5_joined : MTy := (yX5_joined, cX5_joined, 3, (some .boolean), { frames := 1, cells := 0, slots := 0, locals := 22 })
theorem ok_X5_joined : OkV M_X5_joined RX5 2 := ⟨tb_301, tb_302, tb_35, tb_303, rfl, by decide, by decide, by decide +kernel⟩
abbrev M_X5_measure : MTy := (yX5_measure, cX5_measure, 4, none, { frames := 2, cells := 0, slots := 0, locals := 45 })
theorem ok_X5_measure : OkV M_X5_measure RX5 0 := ⟨tb_282, tb_283, tb_35, tb_284, rfl, by decide, by decide, by decide +kernel⟩
abbrev M_X5_meetingOf : MTy := (yX5_meetingOf, cX5_meetingOf, 5, (some .int), { frames := 2, cells := 0, slots := 0, locals := 45 })
theorem ok_X5_meetingOf : OkV M_X5_meetingOf RX5 3 := ⟨tb_437, tb_438, tb_35, tb_439, rfl, by decide, by decide, by decide +kernel⟩
abbrev M_X5_middleOf : MTy := (yX5_middleOf, cX5_middleOf, 5, (some .int), { frames := 3, cells := 0, slots := 0, locals := 68 })
theorem ok_X5_middleOf : OkV M_X5_middleOf RX5 1 := ⟨tb_410, tb_411, tb_35, tb_412, rfl, by decide, by decide, by decide +kernel⟩
abbrev M_X5_onPath : MTy := (yX5_onPath, cX5_onPath, 4, (some .boolean), { frames := 1, cells := 0, slots := 0, locals := 22 })
theorem ok_X5_onPath : OkV M_X5_onPath RX5 3 := ⟨tb_442, tb_2, tb_35, tb_443, rfl, by decide, by decide, by decide +kernel⟩
abbrev M_X5_priceOf : MTy := (yX5_priceOf, cX5_priceOf, 4, (some .int), { frames := 2, cells := 0, slots := 0, locals := 44 })
theorem ok_X5_priceOf : OkV M_X5_priceOf RX5 1 := ⟨tb_423, tb_424, tb_35, tb_425, rfl, by decide, by decide, by decide +kernel⟩
abbrev M_X5_reachOf : MTy := (yX5_reachOf, cX5_reachOf, 6, (some .long), { frames := 5, cells := 0, slots := 0, locals := 116 })
theorem ok_X5_reachOf : OkV M_X5_reachOf RX5 2 := ⟨tb_543, tb_544, tb_35, tb_545, rfl, by decide, by decide, by decide +kernel⟩
abbrev M_X5_smallestJoined : MTy := (yX5_smallestJoined, cX5_smallestJoined, 3, (some .int), { frames := 2, cells := 0, slots := 0, locals := 44 })
theorem ok_X5_smallestJoined : OkV M_X5_smallestJoined RX5 1 := ⟨tb_297, tb_298, tb_35, tb_299, rfl, by decide, by decide, by decide +kernel⟩
abbrev M_X5_stepToward : MTy := (yX5_stepToward, cX5_stepToward, 4, (some .int), { frames := 3, cells := 0, slots := 0, locals := 66 })
theorem ok_X5_stepToward : OkV M_X5_stepToward RX5 2 := ⟨tb_371, tb_1, tb_35, tb_372, rfl, by decide, by decide, by decide +kernel⟩
abbrev M_X5_vertexOnPath : MTy := (yX5_vertexOnPath, cX5_vertexOnPath, 6, (some .int), { frames := 4, cells := 0, slots := 0, locals := 89 })
theorem ok_X5_vertexOnPath : OkV M_X5_vertexOnPath RX5 3 := ⟨tb_366, tb_367, tb_35, tb_368, rfl, by decide, by decide, by decide +kernel⟩
abbrev M_X5_widthAround : MTy := (yX5_widthAround, cX5_widthAround, 2, (some .int), { frames := 4, cells := 0, slots := 0, locals := 92 })
theorem ok_X5_widthAround : OkV M_X5_widthAround RX5 1 := ⟨tb_391, tb_392, tb_35, tb_393, rfl, by decide, by decide, by decide +kernel⟩
abbrev M_X6_append : MTy := (yX6_append, cX6_append, 2, (some .int), { frames := 1, cells := 0, slots := 0, locals := 21 })
theorem ok_X6_append : OkV M_X6_append RX6 1 := ⟨tb_248, tb_249, tb_31, tb_250, rfl, by decide, by decide, by decide +kernel⟩
abbrev M_X6_balancedCut : MTy := (yX6_balancedCut, cX6_balancedCut, 2, (some .int), { frames := 4, cells := 0, slots := 0, locals := 94 })
theorem ok_X6_balancedCut : OkV M_X6_balancedCut RX6 1 := ⟨tb_524, tb_525, tb_31, tb_526, rfl, by decide, by decide, by decide +kernel⟩
abbrev M_X6_centre : MTy := (yX6_centre, cX6_centre, 2, (some .int), { frames := 4, cells := 0, slots := 0, locals := 92 })
theorem ok_X6_centre : OkV M_X6_centre RX6 1 := ⟨tb_406, tb_407, tb_31, tb_408, rfl, by decide, by decide, by decide +kernel⟩
abbrev M_X6_changeTrial : MTy := (yX6_changeTrial, cX6_changeTrial, 6, none, { frames := 4, cells := 0, slots := 0, locals := 92 })
theorem ok_X6_changeTrial : OkV M_X6_changeTrial RX6 1 := ⟨tb_617, tb_22, tb_31, tb_618, rfl, by decide, by decide, by decide +kernel⟩
abbrev M_X6_clearText : MTy := (yX6_clearText, cX6_clearText, 2, (some .int), { frames := 1, cells := 0, slots := 0, locals := 20 })
theorem ok_X6_clearText : OkV M_X6_clearText RX6 0 := ⟨tb_639, tb_640, tb_31, tb_641, rfl, by decide, by decide, by decide +kernel⟩
abbrev M_X6_cost : MTy := (yX6_cost, cX6_cost, 2, (some .int), { frames := 3, cells := 0, slots := 0, locals := 68 })
theorem ok_X6_cost : OkV M_X6_cost RX6 1 := ⟨tb_428, tb_429, tb_31, tb_430, rfl, by decide, by decide, by decide +kernel⟩
abbrev M_X6_cut : MTy := (yX6_cut, cX6_cut, 5, (some .int), { frames := 4, cells := 0, slots := 0, locals := 88 })
theorem ok_X6_cut : OkV M_X6_cut RX6 2 := ⟨tb_338, tb_339, tb_31, tb_340, rfl, by decide, by decide, by decide +kernel⟩
abbrev M_X6_cutError : MTy := (yX6_cutError, cX6_cutError, 3, (some .int), { frames := 3, cells := 0, slots := 0, locals := 66 })
theorem ok_X6_cutError : OkS M_X6_cutError 3 := ⟨tb_342, tb_31, tb_343, by decide, by decide, by decide +kernel⟩
abbrev M_X6_diameter : MTy := (yX6_diameter, cX6_diameter, 2, (some .int), { frames := 5, cells := 0, slots := 0, locals := 113 })
theorem ok_X6_diameter : OkV M_X6_diameter RX6 1 := ⟨tb_387, tb_388, tb_31, tb_389, rfl, by decide, by decide, by decide +kernel⟩
abbrev M_X6_diameterEnd : MTy := (yX6_diameterEnd, cX6_diameterEnd, 4, (some .int), { frames := 4, cells := 0, slots := 0, locals := 92 })
theorem ok_X6_diameterEnd : OkV M_X6_diameterEnd RX6 2 := ⟨tb_400, tb_401, tb_31, tb_402, rfl, by decide, by decide, by decide +kernel⟩
abbrev M_X6_distance : MTy := (yX6_distance, cX6_distance, 3, (some .int), { frames := 3, cells := 0, slots := 0, locals := 68 })
theorem ok_X6_distance : OkV M_X6_distance RX6 2 := ⟨tb_357, tb_358, tb_31, tb_359, rfl, by decide, by decide, by decide +kernel⟩
abbrev M_X6_eccentricity : MTy := (yX6_eccentricity, cX6_eccentricity, 2, (some .int), { frames := 3, cells := 0, slots := 0, locals := 68 })
theorem ok_X6_eccentricity : OkV M_X6_eccentricity RX6 1 := ⟨tb_375, tb_376, tb_31, tb_377, rfl, by decide, by decide, by decide +kernel⟩
abbrev M_X6_edgeWeight : MTy := (yX6_edgeWeight, cX6_edgeWeight, 3, (some .int), { frames := 3, cells := 0, slots := 0, locals := 66 })
theorem ok_X6_edgeWeight : OkV M_X6_edgeWeight RX6 2 := ⟨tb_260, tb_261, tb_31, tb_262, rfl, by decide, by decide, by decide +kernel⟩
abbrev M_X6_emptySlots : MTy := (yX6_emptySlots, cX6_emptySlots, 2, none, { frames := 0, cells := 0, slots := 0, locals := 0 })
theorem ok_X6_emptySlots : OkV M_X6_emptySlots RX6 0 := ⟨tb_729, tb_29, tb_31, tb_730, rfl, by decide, by decide, by decide +kernel⟩
abbrev M_X6_errorPosition : MTy := (yX6_errorPosition, cX6_errorPosition, 1, (some .int), { frames := 5, cells := 0, slots := 0, locals := 118 })
theorem ok_X6_errorPosition : OkV M_X6_errorPosition RX6 0 := ⟨tb_755, tb_756, tb_31, tb_757, rfl, by decide, by decide, by decide +kernel⟩
abbrev M_X6_expectedReach : MTy := (yX6_expectedReach, cX6_expectedReach, 3, (some .long), { frames := 6, cells := 0, slots := 0, locals := 141 })
theorem ok_X6_expectedReach : OkV M_X6_expectedReach RX6 2 := ⟨tb_537, tb_538, tb_31, tb_539, rfl, by decide, by decide, by decide +kernel⟩
abbrev M_X6_init : MTy := (yX6_init, cX6_init, 2, none, { frames := 4, cells := 326, slots := 3735, locals := 86 })
theorem ok_X6_init : OkI M_X6_init 0 := ⟨tb_48, tb_31, tb_49, rfl, rfl, by decide, by decide, by decide +kernel⟩
abbrev M_X6_joinedInTrial : MTy := (yX6_joinedInTrial, cX6_joinedInTrial, 3, (some .boolean), { frames := 3, cells := 0, slots := 0, locals := 68 })
theorem ok_X6_joinedInTrial : OkV M_X6_joinedInTrial RX6 2 := ⟨tb_602, tb_20, tb_31, tb_603, rfl, by decide, by decide, by decide +kernel⟩
abbrev M_X6_leavesEarlier : MTy := (yX6_leavesEarlier, cX6_leavesEarlier, 5, (some .boolean), { frames := 4, cells := 0, slots := 0, locals := 89 })
theorem ok_X6_leavesEarlier : OkV M_X6_leavesEarlier RX6 2 := ⟨tb_606, tb_21, tb_31, tb_607, rfl, by decide, by decide, by decide +kernel⟩
abbrev M_X6_link : MTy := (yX6_link, cX6_link, 5, (some .int), { frames := 4, cells := 0, slots := 0, locals := 92 })
theorem ok_X6_link : OkV M_X6_link RX6 3 := ⟨tb_309, tb_310, tb_31, tb_311, rfl, by decide, by decide, by decide +kernel⟩
abbrev M_X6_linkError : MTy := (yX6_linkError, cX6_linkError, 5, (some .int), { frames := 3, cells := 0, slots := 0, locals := 68 })
theorem ok_X6_linkError : OkS M_X6_linkError 5 := ⟨tb_313, tb_31, tb_314, by decide, by decide, by decide +kernel⟩
abbrev M_X6_load : MTy := (yX6_load, cX6_load, 1, (some .int), { frames := 5, cells := 0, slots := 0, locals := 118 })
theorem ok_X6_load : OkV M_X6_load RX6 0 := ⟨tb_692, tb_693, tb_31, tb_694, rfl, by decide, by decide, by decide +kernel⟩
abbrev M_X6_median : MTy := (yX6_median, cX6_median, 2, (some .int), { frames := 4, cells := 0, slots := 0, locals := 91 })
theorem ok_X6_median : OkV M_X6_median RX6 1 := ⟨tb_415, tb_416, tb_31, tb_417, rfl, by decide, by decide, by decide +kernel⟩
abbrev M_X6_meeting : MTy := (yX6_meeting, cX6_meeting, 4, (some .int), { frames := 3, cells := 0, slots := 0, locals := 69 })
theorem ok_X6_meeting : OkV M_X6_meeting RX6 3 := ⟨tb_433, tb_434, tb_31, tb_435, rfl, by decide, by decide, by decide +kernel⟩
abbrev M_X6_obeys : MTy := (yX6_obeys, cX6_obeys, 4, (some .boolean), { frames := 5, cells := 0, slots := 0, locals := 114 })
theorem ok_X6_obeys : OkV M_X6_obeys RX6 1 := ⟨tb_590, tb_17, tb_31, tb_591, rfl, by decide, by decide, by decide +kernel⟩
abbrev M_X6_observe : MTy := (yX6_observe, cX6_observe, 4, (some .int), { frames := 2, cells := 0, slots := 0, locals := 44 })
theorem ok_X6_observe : OkV M_X6_observe RX6 3 := ⟨tb_555, tb_556, tb_31, tb_557, rfl, by decide, by decide, by decide +kernel⟩
abbrev M_X6_pathVertex : MTy := (yX6_pathVertex, cX6_pathVertex, 4, (some .int), { frames := 5, cells := 0, slots := 0, locals := 114 })
theorem ok_X6_pathVertex : OkV M_X6_pathVertex RX6 3 := ⟨tb_362, tb_363, tb_31, tb_364, rfl, by decide, by decide, by decide +kernel⟩
abbrev M_X6_possibleWeights : MTy := (yX6_possibleWeights, cX6_possibleWeights, 3, (some .int), { frames := 4, cells := 0, slots := 0, locals := 99 })
theorem ok_X6_possibleWeights : OkV M_X6_possibleWeights RX6 2 := ⟨tb_564, tb_565, tb_31, tb_566, rfl, by decide, by decide, by decide +kernel⟩
abbrev M_X6_randomChanges : MTy := (yX6_randomChanges, cX6_randomChanges, 8, (some .int), { frames := 5, cells := 0, slots := 0, locals := 117 })
theorem ok_X6_randomChanges : OkV M_X6_randomChanges RX6 2 := ⟨tb_610, tb_611, tb_31, tb_612, rfl, by decide, by decide, by decide +kernel⟩
abbrev M_X6_removalRound : MTy := (yX6_removalRound, cX6_removalRound, 2, (some .int), { frames := 4, cells := 0, slots := 0, locals := 89 })
theorem ok_X6_removalRound : OkV M_X6_removalRound RX6 1 := ⟨tb_508, tb_509, tb_31, tb_510, rfl, by decide, by decide, by decide +kernel⟩
abbrev M_X6_restore : MTy := (yX6_restore, cX6_restore, 2, (some .int), { frames := 4, cells := 0, slots := 0, locals := 89 })
theorem ok_X6_restore : OkV M_X6_restore RX6 1 := ⟨tb_625, tb_626, tb_31, tb_627, rfl, by decide, by decide, by decide +kernel⟩
abbrev M_X6_rounds : MTy := (yX6_rounds, cX6_rounds, 2, (some .int), { frames := 4, cells := 0, slots := 0, locals := 89 })
theorem ok_X6_rounds : OkV M_X6_rounds RX6 1 := ⟨tb_445, tb_446, tb_31, tb_447, rfl, by decide, by decide, by decide +kernel⟩
abbrev M_X6_runScript : MTy := (yX6_runScript, cX6_runScript, 7, (some .int), { frames := 6, cells := 0, slots := 0, locals := 137 })
theorem ok_X6_runScript : OkV M_X6_runScript RX6 2 := ⟨tb_583, tb_584, tb_31, tb_585, rfl, by decide, by decide, by decide +kernel⟩
abbrev M_X6_save : MTy := (yX6_save, cX6_save, 2, (some .int), { frames := 4, cells := 0, slots := 0, locals := 89 })
theorem ok_X6_save : OkV M_X6_save RX6 1 := ⟨tb_621, tb_622, tb_31, tb_623, rfl, by decide, by decide, by decide +kernel⟩
abbrev M_X6_setEdgeWeight : MTy := (yX6_setEdgeWeight, cX6_setEdgeWeight, 5, (some .int), { frames := 3, cells := 0, slots := 0, locals := 69 })
theorem ok_X6_setEdgeWeight : OkV M_X6_setEdgeWeight RX6 3 := ⟨tb_345, tb_346, tb_31, tb_347, rfl, by decide, by decide, by decide +kernel⟩
abbrev M_X6_setVertexWeight : MTy := (yX6_setVertexWeight, cX6_setVertexWeight, 4, (some .int), { frames := 3, cells := 0, slots := 0, locals := 69 })
theorem ok_X6_setVertexWeight : OkV M_X6_setVertexWeight RX6 2 := ⟨tb_349, tb_350, tb_31, tb_351, rfl, by decide, by decide, by decide +kernel⟩
abbrev M_X6_survivor : MTy := (yX6_survivor, cX6_survivor, 2, (some .int), { frames := 4, cells := 0, slots := 0, locals := 89 })
theorem ok_X6_survivor : OkV M_X6_survivor RX6 1 := ⟨tb_516, tb_517, tb_31, tb_518, rfl, by decide, by decide, by decide +kernel⟩
abbrev M_X6_treeOf : MTy := (yX6_treeOf, cX6_treeOf, 2, (some .int), { frames := 3, cells := 0, slots := 0, locals := 68 })
theorem ok_X6_treeOf : OkV M_X6_treeOf RX6 1 := ⟨tb_278, tb_279, tb_31, tb_280, rfl, by decide, by decide, by decide +kernel⟩
abbrev M_X6_triesCut : MTy := (yX6_triesCut, cX6_triesCut, 3, (some .boolean), { frames := 4, cells := 0, slots := 0, locals := 88 })
theorem ok_X6_triesCut : OkV M_X6_triesCut RX6 2 := ⟨tb_598, tb_19, tb_31, tb_599, rfl, by decide, by decide, by decide +kernel⟩
abbrev M_X6_triesLink : MTy := (yX6_triesLink, cX6_triesLink, 3, (some .boolean), { frames := 4, cells := 0, slots := 0, locals := 92 })
theorem ok_X6_triesLink : OkV M_X6_triesLink RX6 2 := ⟨tb_594, tb_18, tb_31, tb_595, rfl, by decide, by decide, by decide +kernel⟩
abbrev M_X6_undo : MTy := (yX6_undo, cX6_undo, 1, (some .int), { frames := 3, cells := 0, slots := 0, locals := 69 })
theorem ok_X6_undo : OkV M_X6_undo RX6 0 := ⟨tb_732, tb_733, tb_31, tb_734, rfl, by decide, by decide, by decide +kernel⟩
abbrev M_X6_vertexWeight : MTy := (yX6_vertexWeight, cX6_vertexWeight, 2, (some .int), { frames := 2, cells := 0, slots := 0, locals := 42 })
theorem ok_X6_vertexWeight : OkV M_X6_vertexWeight RX6 1 := ⟨tb_235, tb_236, tb_31, tb_237, rfl, by decide, by decide, by decide +kernel⟩
