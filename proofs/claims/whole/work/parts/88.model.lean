/-! constructor: WeightedForestModel, the walk -/
section XG
variable {l : Launch} {M : MTy} {A : State → Nat → Prop} {Z : List Frame → Array Value → State → State → Prop} {E : Array Value → State → Prop} {G : Gx} {cells slots : Nat} {mem : Mem} {pc : Nat} {lv : Lv} {st : List Value}
theorem x_putR2 {index ci N v : Nat} {C0 ref : String} {T : u_T} (j k : Nat) {fs : List Value} {ty : FieldType} (hm : M.1.name = "<init>") (hdg : decode M.2.1 pc = .ok (.putfield index, 3)) (hj : j < gK G) (hc : gO G j = some (.inr (ci, fs))) (hcl : vwCl[ci]? = some (C0, T, N)) (hin : ∀ w ∈ u_ws C0 T N, w ∈ TB) (ty0 : Nat → FieldType) (hty : ∀ k, k < N → parseFieldDescriptor (T k).2.2.1 = some (ty0 k)) (hnm : ∀ a, a < N → ∀ b, b < N → a ≠ b → (T a).2.1 ≠ (T b).2.1) (hk : k < N) (hw : Cond.fieldLink M.1.cls index ref (T k).2.1 (T k).2.2.1 ∈ TB) (hsame : (T k).1 = ref) (hfin : (T k).2.2.2 = true) (hdecl : (T k).1 = M.1.cls) (hd : parseFieldDescriptor (T k).2.2.1 = some ty) (hn : narrow ty (.ref v) = .ref v) (hfit : fits ty (.ref v) = true) (hl : k < fs.length) {fs' : List Value} (hs : fs.set k (.ref v) = fs') (kk : Xg l M A Z E (gSet G j (.inr (ci, fs'))) cells slots mem (pc + 3) lv st) : Xg l M A Z E G cells slots mem pc lv (.ref v :: .ref (gA G j) :: st) := by
  refine x_putR j k hm hdg hj hc hcl hin ty0 hty hnm hk hw hsame hfin hdecl hd hn hfit hl ?_
  rw [hs]
  exact kk
end XG
set_option maxRecDepth 100000 in
set_option maxHeartbeats 4000000 in
theorem mseg0 {l : Launch} {G g : Gx} {mem : Mem} {P : Option Value → Gx → Mem → Prop} {cc : Nat → va_E} {aa : Nat → Nat} (B0 : Bd G g 327 0 (.inr (7, [.null, .int 0, .int 0, .int 0, .int 0, .null, .null, .null, .null, .int 0, .int 0, .null, .null, .null, .int 0, .null, .null, .null, .null, .null, .null, .null, .int 0, .int 0])) cc aa) (kk : ∀ (aq1 aq3 aq5 aq7 aq9 : Nat) (g' : Gx), Bd G g' 327 5 (.inr (7, [.ref aq1, .int 0, .int 0, .int 0, .int 0, .ref aq3, .ref aq5, .ref aq7, .ref aq9, .int 0, .int 0, .null, .null, .null, .int 0, .null, .null, .null, .null, .null, .null, .null, .int 0, .int 0])) (va_up (va_up (va_up (va_up (va_up cc 328 (rI (gC G) 80 (fun _ => 0))) 329 (rI (gC G) 156 (fun _ => 0))) 330 (rI (gC G) 156 (fun _ => 0))) 331 (rI (gC G) 156 (fun _ => 0))) 332 (rI (gC G) 2184 (fun _ => 0))) (va_up (va_up (va_up (va_up (va_up aa 328 aq1) 329 aq3) 330 aq5) 331 aq7) 332 aq9) → Xm l M_X7_init G 15 3280 P g' 5 2732 mem 48 [(0, .ref (gA G 327))] []) : Xm l M_X7_init G 15 3280 P g 0 0 mem 4 [(0, .ref (gA G 327))] [] := by
  refine x_aload_n (pc := 4) dX7_init_4 0 rfl rfl ?_
  refine x_bipush (pc := 5) (v := 80) dX7_init_5 (by decide) ?_
  refine x_newaI (pc := 7) (N := 80) B0.cl dX7_init_7 tb_107 (by decide) rfl (Nat.le_of_ble_eq_true rfl) (Nat.le_of_ble_eq_true rfl) (Nat.le_of_ble_eq_true rfl) (fun aq1 => ?_)
  have B1n := B0.put aq1 (rI (gC g) 80 (fun _ => 0))
  generalize gPut g aq1 (rI (gC g) 80 (fun _ => 0)) = g1n at B1n ⊢
  rw [B0.1.2] at B1n
  refine x_eq (st2 := [.ref aq1, .ref (gA g1n 327)]) rfl rfl (by rw [B1n.a]) ?_
  refine x_putR2 (pc := 9) 327 0 (ty := tyX7 0) rfl dX7_init_9 B1n.k B1n.o rfl inX7 tyX7 tyX7_ok nmX7 (by decide) tb_711 rfl rfl rfl (tyX7_ok 0 (by decide)) rfl rfl (Nat.le_of_ble_eq_true rfl) (fs' := [.ref aq1, .int 0, .int 0, .int 0, .int 0, .null, .null, .null, .null, .int 0, .int 0, .null, .null, .null, .int 0, .null, .null, .null, .null, .null, .null, .null, .int 0, .int 0]) (by simp only [List.set_cons_succ, List.set_cons_zero]) ?_
  have B2n := B1n.set (.inr (7, [.ref aq1, .int 0, .int 0, .int 0, .int 0, .null, .null, .null, .null, .int 0, .int 0, .null, .null, .null, .int 0, .null, .null, .null, .null, .null, .null, .null, .int 0, .int 0]))
  generalize gSet g1n 327 (.inr (7, [.ref aq1, .int 0, .int 0, .int 0, .int 0, .null, .null, .null, .null, .int 0, .int 0, .null, .null, .null, .int 0, .null, .null, .null, .null, .null, .null, .null, .int 0, .int 0])) = g2n at B2n ⊢
  refine x_aload_n (pc := 12) dX7_init_12 0 rfl rfl ?_
  refine x_sipush (pc := 13) (v := 156) dX7_init_13 (by decide) ?_
  refine x_newaI (pc := 16) (N := 156) B2n.cl dX7_init_16 tb_107 (by decide) rfl (Nat.le_of_ble_eq_true rfl) (Nat.le_of_ble_eq_true rfl) (Nat.le_of_ble_eq_true rfl) (fun aq3 => ?_)
  have B3n := B2n.put aq3 (rI (gC g2n) 156 (fun _ => 0))
  generalize gPut g2n aq3 (rI (gC g2n) 156 (fun _ => 0)) = g3n at B3n ⊢
  rw [B2n.1.2] at B3n
  refine x_eq (st2 := [.ref aq3, .ref (gA g3n 327)]) rfl rfl (by rw [B3n.a]) ?_
  refine x_putR2 (pc := 18) 327 5 (ty := tyX7 5) rfl dX7_init_18 B3n.k B3n.o rfl inX7 tyX7 tyX7_ok nmX7 (by decide) tb_716 rfl rfl rfl (tyX7_ok 5 (by decide)) rfl rfl (Nat.le_of_ble_eq_true rfl) (fs' := [.ref aq1, .int 0, .int 0, .int 0, .int 0, .ref aq3, .null, .null, .null, .int 0, .int 0, .null, .null, .null, .int 0, .null, .null, .null, .null, .null, .null, .null, .int 0, .int 0]) (by simp only [List.set_cons_succ, List.set_cons_zero]) ?_
  have B4n := B3n.set (.inr (7, [.ref aq1, .int 0, .int 0, .int 0, .int 0, .ref aq3, .null, .null, .null, .int 0, .int 0, .null, .null, .null, .int 0, .null, .null, .null, .null, .null, .null, .null, .int 0, .int 0]))
  generalize gSet g3n 327 (.inr (7, [.ref aq1, .int 0, .int 0, .int 0, .int 0, .ref aq3, .null, .null, .null, .int 0, .int 0, .null, .null, .null, .int 0, .null, .null, .null, .null, .null, .null, .null, .int 0, .int 0])) = g4n at B4n ⊢
  refine x_aload_n (pc := 21) dX7_init_21 0 rfl rfl ?_
  refine x_sipush (pc := 22) (v := 156) dX7_init_22 (by decide) ?_
  refine x_newaI (pc := 25) (N := 156) B4n.cl dX7_init_25 tb_107 (by decide) rfl (Nat.le_of_ble_eq_true rfl) (Nat.le_of_ble_eq_true rfl) (Nat.le_of_ble_eq_true rfl) (fun aq5 => ?_)
  have B5n := B4n.put aq5 (rI (gC g4n) 156 (fun _ => 0))
  generalize gPut g4n aq5 (rI (gC g4n) 156 (fun _ => 0)) = g5n at B5n ⊢
  rw [B4n.1.2] at B5n
  refine x_eq (st2 := [.ref aq5, .ref (gA g5n 327)]) rfl rfl (by rw [B5n.a]) ?_
  refine x_putR2 (pc := 27) 327 6 (ty := tyX7 6) rfl dX7_init_27 B5n.k B5n.o rfl inX7 tyX7 tyX7_ok nmX7 (by decide) tb_717 rfl rfl rfl (tyX7_ok 6 (by decide)) rfl rfl (Nat.le_of_ble_eq_true rfl) (fs' := [.ref aq1, .int 0, .int 0, .int 0, .int 0, .ref aq3, .ref aq5, .null, .null, .int 0, .int 0, .null, .null, .null, .int 0, .null, .null, .null, .null, .null, .null, .null, .int 0, .int 0]) (by simp only [List.set_cons_succ, List.set_cons_zero]) ?_
  have B6n := B5n.set (.inr (7, [.ref aq1, .int 0, .int 0, .int 0, .int 0, .ref aq3, .ref aq5, .null, .null, .int 0, .int 0, .null, .null, .null, .int 0, .null, .null, .null, .null, .null, .null, .null, .int 0, .int 0]))
  generalize gSet g5n 327 (.inr (7, [.ref aq1, .int 0, .int 0, .int 0, .int 0, .ref aq3, .ref aq5, .null, .null, .int 0, .int 0, .null, .null, .null, .int 0, .null, .null, .null, .null, .null, .null, .null, .int 0, .int 0])) = g6n at B6n ⊢
  refine x_aload_n (pc := 30) dX7_init_30 0 rfl rfl ?_
  refine x_sipush (pc := 31) (v := 156) dX7_init_31 (by decide) ?_
  refine x_newaI (pc := 34) (N := 156) B6n.cl dX7_init_34 tb_107 (by decide) rfl (Nat.le_of_ble_eq_true rfl) (Nat.le_of_ble_eq_true rfl) (Nat.le_of_ble_eq_true rfl) (fun aq7 => ?_)
  have B7n := B6n.put aq7 (rI (gC g6n) 156 (fun _ => 0))
  generalize gPut g6n aq7 (rI (gC g6n) 156 (fun _ => 0)) = g7n at B7n ⊢
  rw [B6n.1.2] at B7n
  refine x_eq (st2 := [.ref aq7, .ref (gA g7n 327)]) rfl rfl (by rw [B7n.a]) ?_
  refine x_putR2 (pc := 36) 327 7 (ty := tyX7 7) rfl dX7_init_36 B7n.k B7n.o rfl inX7 tyX7 tyX7_ok nmX7 (by decide) tb_718 rfl rfl rfl (tyX7_ok 7 (by decide)) rfl rfl (Nat.le_of_ble_eq_true rfl) (fs' := [.ref aq1, .int 0, .int 0, .int 0, .int 0, .ref aq3, .ref aq5, .ref aq7, .null, .int 0, .int 0, .null, .null, .null, .int 0, .null, .null, .null, .null, .null, .null, .null, .int 0, .int 0]) (by simp only [List.set_cons_succ, List.set_cons_zero]) ?_
  have B8n := B7n.set (.inr (7, [.ref aq1, .int 0, .int 0, .int 0, .int 0, .ref aq3, .ref aq5, .ref aq7, .null, .int 0, .int 0, .null, .null, .null, .int 0, .null, .null, .null, .null, .null, .null, .null, .int 0, .int 0]))
  generalize gSet g7n 327 (.inr (7, [.ref aq1, .int 0, .int 0, .int 0, .int 0, .ref aq3, .ref aq5, .ref aq7, .null, .int 0, .int 0, .null, .null, .null, .int 0, .null, .null, .null, .null, .null, .null, .null, .int 0, .int 0])) = g8n at B8n ⊢
  refine x_aload_n (pc := 39) dX7_init_39 0 rfl rfl ?_
  refine x_sipush (pc := 40) (v := 2184) dX7_init_40 (by decide) ?_
  refine x_newaI (pc := 43) (N := 2184) B8n.cl dX7_init_43 tb_107 (by decide) rfl (Nat.le_of_ble_eq_true rfl) (Nat.le_of_ble_eq_true rfl) (Nat.le_of_ble_eq_true rfl) (fun aq9 => ?_)
  have B9n := B8n.put aq9 (rI (gC g8n) 2184 (fun _ => 0))
  generalize gPut g8n aq9 (rI (gC g8n) 2184 (fun _ => 0)) = g9n at B9n ⊢
  rw [B8n.1.2] at B9n
  refine x_eq (st2 := [.ref aq9, .ref (gA g9n 327)]) rfl rfl (by rw [B9n.a]) ?_
  refine x_putR2 (pc := 45) 327 8 (ty := tyX7 8) rfl dX7_init_45 B9n.k B9n.o rfl inX7 tyX7 tyX7_ok nmX7 (by decide) tb_719 rfl rfl rfl (tyX7_ok 8 (by decide)) rfl rfl (Nat.le_of_ble_eq_true rfl) (fs' := [.ref aq1, .int 0, .int 0, .int 0, .int 0, .ref aq3, .ref aq5, .ref aq7, .ref aq9, .int 0, .int 0, .null, .null, .null, .int 0, .null, .null, .null, .null, .null, .null, .null, .int 0, .int 0]) (by simp only [List.set_cons_succ, List.set_cons_zero]) ?_
  have B10n := B9n.set (.inr (7, [.ref aq1, .int 0, .int 0, .int 0, .int 0, .ref aq3, .ref aq5, .ref aq7, .ref aq9, .int 0, .int 0, .null, .null, .null, .int 0, .null, .null, .null, .null, .null, .null, .null, .int 0, .int 0]))
  generalize gSet g9n 327 (.inr (7, [.ref aq1, .int 0, .int 0, .int 0, .int 0, .ref aq3, .ref aq5, .ref aq7, .ref aq9, .int 0, .int 0, .null, .null, .null, .int 0, .null, .null, .null, .null, .null, .null, .null, .int 0, .int 0])) = g10n at B10n ⊢
  exact kk aq1 aq3 aq5 aq7 aq9 g10n B10n
set_option maxRecDepth 100000 in
set_option maxHeartbeats 4000000 in
theorem mseg1 {l : Launch} {G g : Gx} {mem : Mem} {P : Option Value → Gx → Mem → Prop} {cc : Nat → va_E} {aa : Nat → Nat} {aq1 aq3 aq5 aq7 aq9 : Nat} (B0 : Bd G g 327 5 (.inr (7, [.ref aq1, .int 0, .int 0, .int 0, .int 0, .ref aq3, .ref aq5, .ref aq7, .ref aq9, .int 0, .int 0, .null, .null, .null, .int 0, .null, .null, .null, .null, .null, .null, .null, .int 0, .int 0])) cc aa) (kk : ∀ (bq1 bq3 bq5 bq7 bq9 : Nat) (g' : Gx), Bd G g' 327 10 (.inr (7, [.ref aq1, .int 0, .int 0, .int 0, .int 0, .ref aq3, .ref aq5, .ref aq7, .ref aq9, .int 0, .int 0, .ref bq1, .ref bq3, .ref bq5, .int 0, .ref bq7, .ref bq9, .null, .null, .null, .null, .null, .int 0, .int 0])) (va_up (va_up (va_up (va_up (va_up cc 333 (rI (gC G) 312 (fun _ => 0))) 334 (rZ (gC G) 2 (fun _ => 0))) 335 (rI (gC G) 18 (fun _ => 0))) 336 (rI (gC G) 12 (fun _ => 0))) 337 (rI (gC G) 12 (fun _ => 0))) (va_up (va_up (va_up (va_up (va_up aa 333 bq1) 334 bq3) 335 bq5) 336 bq7) 337 bq9) → Xm l M_X7_init G 15 3280 P g' 10 3088 mem 88 [(0, .ref (gA G 327))] []) : Xm l M_X7_init G 15 3280 P g 5 2732 mem 48 [(0, .ref (gA G 327))] [] := by
  refine x_aload_n (pc := 48) dX7_init_48 0 rfl rfl ?_
  refine x_sipush (pc := 49) (v := 312) dX7_init_49 (by decide) ?_
  refine x_newaI (pc := 52) (N := 312) B0.cl dX7_init_52 tb_107 (by decide) rfl (Nat.le_of_ble_eq_true rfl) (Nat.le_of_ble_eq_true rfl) (Nat.le_of_ble_eq_true rfl) (fun bq1 => ?_)
  have B1n := B0.put bq1 (rI (gC g) 312 (fun _ => 0))
  generalize gPut g bq1 (rI (gC g) 312 (fun _ => 0)) = g1n at B1n ⊢
  rw [B0.1.2] at B1n
  refine x_eq (st2 := [.ref bq1, .ref (gA g1n 327)]) rfl rfl (by rw [B1n.a]) ?_
  refine x_putR2 (pc := 54) 327 11 (ty := tyX7 11) rfl dX7_init_54 B1n.k B1n.o rfl inX7 tyX7 tyX7_ok nmX7 (by decide) tb_722 rfl rfl rfl (tyX7_ok 11 (by decide)) rfl rfl (Nat.le_of_ble_eq_true rfl) (fs' := [.ref aq1, .int 0, .int 0, .int 0, .int 0, .ref aq3, .ref aq5, .ref aq7, .ref aq9, .int 0, .int 0, .ref bq1, .null, .null, .int 0, .null, .null, .null, .null, .null, .null, .null, .int 0, .int 0]) (by simp only [List.set_cons_succ, List.set_cons_zero]) ?_
  have B2n := B1n.set (.inr (7, [.ref aq1, .int 0, .int 0, .int 0, .int 0, .ref aq3, .ref aq5, .ref aq7, .ref aq9, .int 0, .int 0, .ref bq1, .null, .null, .int 0, .null, .null, .null, .null, .null, .null, .null, .int 0, .int 0]))
  generalize gSet g1n 327 (.inr (7, [.ref aq1, .int 0, .int 0, .int 0, .int 0, .ref aq3, .ref aq5, .ref aq7, .ref aq9, .int 0, .int 0, .ref bq1, .null, .null, .int 0, .null, .null, .null, .null, .null, .null, .null, .int 0, .int 0])) = g2n at B2n ⊢
  refine x_aload_n (pc := 57) dX7_init_57 0 rfl rfl ?_
  refine x_iconst (pc := 58) (v := 2) dX7_init_58 (by decide) ?_
  refine x_newaZ (pc := 59) (N := 2) B2n.cl dX7_init_59 tb_154 (by decide) rfl (Nat.le_of_ble_eq_true rfl) (Nat.le_of_ble_eq_true rfl) (Nat.le_of_ble_eq_true rfl) (fun bq3 => ?_)
  have B3n := B2n.put bq3 (rZ (gC g2n) 2 (fun _ => 0))
  generalize gPut g2n bq3 (rZ (gC g2n) 2 (fun _ => 0)) = g3n at B3n ⊢
  rw [B2n.1.2] at B3n
  refine x_eq (st2 := [.ref bq3, .ref (gA g3n 327)]) rfl rfl (by rw [B3n.a]) ?_
  refine x_putR2 (pc := 61) 327 12 (ty := tyX7 12) rfl dX7_init_61 B3n.k B3n.o rfl inX7 tyX7 tyX7_ok nmX7 (by decide) tb_723 rfl rfl rfl (tyX7_ok 12 (by decide)) rfl rfl (Nat.le_of_ble_eq_true rfl) (fs' := [.ref aq1, .int 0, .int 0, .int 0, .int 0, .ref aq3, .ref aq5, .ref aq7, .ref aq9, .int 0, .int 0, .ref bq1, .ref bq3, .null, .int 0, .null, .null, .null, .null, .null, .null, .null, .int 0, .int 0]) (by simp only [List.set_cons_succ, List.set_cons_zero]) ?_
  have B4n := B3n.set (.inr (7, [.ref aq1, .int 0, .int 0, .int 0, .int 0, .ref aq3, .ref aq5, .ref aq7, .ref aq9, .int 0, .int 0, .ref bq1, .ref bq3, .null, .int 0, .null, .null, .null, .null, .null, .null, .null, .int 0, .int 0]))
  generalize gSet g3n 327 (.inr (7, [.ref aq1, .int 0, .int 0, .int 0, .int 0, .ref aq3, .ref aq5, .ref aq7, .ref aq9, .int 0, .int 0, .ref bq1, .ref bq3, .null, .int 0, .null, .null, .null, .null, .null, .null, .null, .int 0, .int 0])) = g4n at B4n ⊢
  refine x_aload_n (pc := 64) dX7_init_64 0 rfl rfl ?_
  refine x_bipush (pc := 65) (v := 18) dX7_init_65 (by decide) ?_
  refine x_newaI (pc := 67) (N := 18) B4n.cl dX7_init_67 tb_107 (by decide) rfl (Nat.le_of_ble_eq_true rfl) (Nat.le_of_ble_eq_true rfl) (Nat.le_of_ble_eq_true rfl) (fun bq5 => ?_)
  have B5n := B4n.put bq5 (rI (gC g4n) 18 (fun _ => 0))
  generalize gPut g4n bq5 (rI (gC g4n) 18 (fun _ => 0)) = g5n at B5n ⊢
  rw [B4n.1.2] at B5n
  refine x_eq (st2 := [.ref bq5, .ref (gA g5n 327)]) rfl rfl (by rw [B5n.a]) ?_
  refine x_putR2 (pc := 69) 327 13 (ty := tyX7 13) rfl dX7_init_69 B5n.k B5n.o rfl inX7 tyX7 tyX7_ok nmX7 (by decide) tb_724 rfl rfl rfl (tyX7_ok 13 (by decide)) rfl rfl (Nat.le_of_ble_eq_true rfl) (fs' := [.ref aq1, .int 0, .int 0, .int 0, .int 0, .ref aq3, .ref aq5, .ref aq7, .ref aq9, .int 0, .int 0, .ref bq1, .ref bq3, .ref bq5, .int 0, .null, .null, .null, .null, .null, .null, .null, .int 0, .int 0]) (by simp only [List.set_cons_succ, List.set_cons_zero]) ?_
  have B6n := B5n.set (.inr (7, [.ref aq1, .int 0, .int 0, .int 0, .int 0, .ref aq3, .ref aq5, .ref aq7, .ref aq9, .int 0, .int 0, .ref bq1, .ref bq3, .ref bq5, .int 0, .null, .null, .null, .null, .null, .null, .null, .int 0, .int 0]))
  generalize gSet g5n 327 (.inr (7, [.ref aq1, .int 0, .int 0, .int 0, .int 0, .ref aq3, .ref aq5, .ref aq7, .ref aq9, .int 0, .int 0, .ref bq1, .ref bq3, .ref bq5, .int 0, .null, .null, .null, .null, .null, .null, .null, .int 0, .int 0])) = g6n at B6n ⊢
  refine x_aload_n (pc := 72) dX7_init_72 0 rfl rfl ?_
  refine x_bipush (pc := 73) (v := 12) dX7_init_73 (by decide) ?_
  refine x_newaI (pc := 75) (N := 12) B6n.cl dX7_init_75 tb_107 (by decide) rfl (Nat.le_of_ble_eq_true rfl) (Nat.le_of_ble_eq_true rfl) (Nat.le_of_ble_eq_true rfl) (fun bq7 => ?_)
  have B7n := B6n.put bq7 (rI (gC g6n) 12 (fun _ => 0))
  generalize gPut g6n bq7 (rI (gC g6n) 12 (fun _ => 0)) = g7n at B7n ⊢
  rw [B6n.1.2] at B7n
  refine x_eq (st2 := [.ref bq7, .ref (gA g7n 327)]) rfl rfl (by rw [B7n.a]) ?_
  refine x_putR2 (pc := 77) 327 15 (ty := tyX7 15) rfl dX7_init_77 B7n.k B7n.o rfl inX7 tyX7 tyX7_ok nmX7 (by decide) tb_726 rfl rfl rfl (tyX7_ok 15 (by decide)) rfl rfl (Nat.le_of_ble_eq_true rfl) (fs' := [.ref aq1, .int 0, .int 0, .int 0, .int 0, .ref aq3, .ref aq5, .ref aq7, .ref aq9, .int 0, .int 0, .ref bq1, .ref bq3, .ref bq5, .int 0, .ref bq7, .null, .null, .null, .null, .null, .null, .int 0, .int 0]) (by simp only [List.set_cons_succ, List.set_cons_zero]) ?_
  have B8n := B7n.set (.inr (7, [.ref aq1, .int 0, .int 0, .int 0, .int 0, .ref aq3, .ref aq5, .ref aq7, .ref aq9, .int 0, .int 0, .ref bq1, .ref bq3, .ref bq5, .int 0, .ref bq7, .null, .null, .null, .null, .null, .null, .int 0, .int 0]))
  generalize gSet g7n 327 (.inr (7, [.ref aq1, .int 0, .int 0, .int 0, .int 0, .ref aq3, .ref aq5, .ref aq7, .ref aq9, .int 0, .int 0, .ref bq1, .ref bq3, .ref bq5, .int 0, .ref bq7, .null, .null, .null, .null, .null, .null, .int 0, .int 0])) = g8n at B8n ⊢
  refine x_aload_n (pc := 80) dX7_init_80 0 rfl rfl ?_
  refine x_bipush (pc := 81) (v := 12) dX7_init_81 (by decide) ?_
  refine x_newaI (pc := 83) (N := 12) B8n.cl dX7_init_83 tb_107 (by decide) rfl (Nat.le_of_ble_eq_true rfl) (Nat.le_of_ble_eq_true rfl) (Nat.le_of_ble_eq_true rfl) (fun bq9 => ?_)
  have B9n := B8n.put bq9 (rI (gC g8n) 12 (fun _ => 0))
  generalize gPut g8n bq9 (rI (gC g8n) 12 (fun _ => 0)) = g9n at B9n ⊢
  rw [B8n.1.2] at B9n
  refine x_eq (st2 := [.ref bq9, .ref (gA g9n 327)]) rfl rfl (by rw [B9n.a]) ?_
  refine x_putR2 (pc := 85) 327 16 (ty := tyX7 16) rfl dX7_init_85 B9n.k B9n.o rfl inX7 tyX7 tyX7_ok nmX7 (by decide) tb_727 rfl rfl rfl (tyX7_ok 16 (by decide)) rfl rfl (Nat.le_of_ble_eq_true rfl) (fs' := [.ref aq1, .int 0, .int 0, .int 0, .int 0, .ref aq3, .ref aq5, .ref aq7, .ref aq9, .int 0, .int 0, .ref bq1, .ref bq3, .ref bq5, .int 0, .ref bq7, .ref bq9, .null, .null, .null, .null, .null, .int 0, .int 0]) (by simp only [List.set_cons_succ, List.set_cons_zero]) ?_
  have B10n := B9n.set (.inr (7, [.ref aq1, .int 0, .int 0, .int 0, .int 0, .ref aq3, .ref aq5, .ref aq7, .ref aq9, .int 0, .int 0, .ref bq1, .ref bq3, .ref bq5, .int 0, .ref bq7, .ref bq9, .null, .null, .null, .null, .null, .int 0, .int 0]))
  generalize gSet g9n 327 (.inr (7, [.ref aq1, .int 0, .int 0, .int 0, .int 0, .ref aq3, .ref aq5, .ref aq7, .ref aq9, .int 0, .int 0, .ref bq1, .ref bq3, .ref bq5, .int 0, .ref bq7, .ref bq9, .null, .null, .null, .null, .null, .int 0, .int 0])) = g10n at B10n ⊢
  exact kk bq1 bq3 bq5 bq7 bq9 g10n B10n
set_option maxRecDepth 100000 in
set_option maxHeartbeats 4000000 in
theorem mseg2 {l : Launch} {G g : Gx} {mem : Mem} {P : Option Value → Gx → Mem → Prop} {cc : Nat → va_E} {aa : Nat → Nat} {aq1 aq3 aq5 aq7 aq9 bq1 bq3 bq5 bq7 bq9 : Nat} (B0 : Bd G g 327 10 (.inr (7, [.ref aq1, .int 0, .int 0, .int 0, .int 0, .ref aq3, .ref aq5, .ref aq7, .ref aq9, .int 0, .int 0, .ref bq1, .ref bq3, .ref bq5, .int 0, .ref bq7, .ref bq9, .null, .null, .null, .null, .null, .int 0, .int 0])) cc aa) (kk : ∀ (cq1 cq3 cq5 cq7 cq9 : Nat) (g' : Gx), Bd G g' 327 15 (.inr (7, [.ref aq1, .int 0, .int 0, .int 0, .int 0, .ref aq3, .ref aq5, .ref aq7, .ref aq9, .int 0, .int 0, .ref bq1, .ref bq3, .ref bq5, .int 0, .ref bq7, .ref bq9, .ref cq1, .ref cq3, .ref cq5, .ref cq7, .ref cq9, .int 0, .int 0])) (va_up (va_up (va_up (va_up (va_up cc 338 (rI (gC G) 12 (fun _ => 0))) 339 (rI (gC G) 144 (fun _ => 0))) 340 (rZ (gC G) 12 (fun _ => 0))) 341 (rZ (gC G) 12 (fun _ => 0))) 342 (rI (gC G) 12 (fun _ => 0))) (va_up (va_up (va_up (va_up (va_up aa 338 cq1) 339 cq3) 340 cq5) 341 cq7) 342 cq9) → Xm l M_X7_init G 15 3280 P g' 15 3280 mem 129 [(0, .ref (gA G 327))] []) : Xm l M_X7_init G 15 3280 P g 10 3088 mem 88 [(0, .ref (gA G 327))] [] := by
  refine x_aload_n (pc := 88) dX7_init_88 0 rfl rfl ?_
  refine x_bipush (pc := 89) (v := 12) dX7_init_89 (by decide) ?_
  refine x_newaI (pc := 91) (N := 12) B0.cl dX7_init_91 tb_107 (by decide) rfl (Nat.le_of_ble_eq_true rfl) (Nat.le_of_ble_eq_true rfl) (Nat.le_of_ble_eq_true rfl) (fun cq1 => ?_)
  have B1n := B0.put cq1 (rI (gC g) 12 (fun _ => 0))
  generalize gPut g cq1 (rI (gC g) 12 (fun _ => 0)) = g1n at B1n ⊢
  rw [B0.1.2] at B1n
  refine x_eq (st2 := [.ref cq1, .ref (gA g1n 327)]) rfl rfl (by rw [B1n.a]) ?_
  refine x_putR2 (pc := 93) 327 17 (ty := tyX7 17) rfl dX7_init_93 B1n.k B1n.o rfl inX7 tyX7 tyX7_ok nmX7 (by decide) tb_728 rfl rfl rfl (tyX7_ok 17 (by decide)) rfl rfl (Nat.le_of_ble_eq_true rfl) (fs' := [.ref aq1, .int 0, .int 0, .int 0, .int 0, .ref aq3, .ref aq5, .ref aq7, .ref aq9, .int 0, .int 0, .ref bq1, .ref bq3, .ref bq5, .int 0, .ref bq7, .ref bq9, .ref cq1, .null, .null, .null, .null, .int 0, .int 0]) (by simp only [List.set_cons_succ, List.set_cons_zero]) ?_
  have B2n := B1n.set (.inr (7, [.ref aq1, .int 0, .int 0, .int 0, .int 0, .ref aq3, .ref aq5, .ref aq7, .ref aq9, .int 0, .int 0, .ref bq1, .ref bq3, .ref bq5, .int 0, .ref bq7, .ref bq9, .ref cq1, .null, .null, .null, .null, .int 0, .int 0]))
  generalize gSet g1n 327 (.inr (7, [.ref aq1, .int 0, .int 0, .int 0, .int 0, .ref aq3, .ref aq5, .ref aq7, .ref aq9, .int 0, .int 0, .ref bq1, .ref bq3, .ref bq5, .int 0, .ref bq7, .ref bq9, .ref cq1, .null, .null, .null, .null, .int 0, .int 0])) = g2n at B2n ⊢
  refine x_aload_n (pc := 96) dX7_init_96 0 rfl rfl ?_
  refine x_sipush (pc := 97) (v := 144) dX7_init_97 (by decide) ?_
  refine x_newaI (pc := 100) (N := 144) B2n.cl dX7_init_100 tb_107 (by decide) rfl (Nat.le_of_ble_eq_true rfl) (Nat.le_of_ble_eq_true rfl) (Nat.le_of_ble_eq_true rfl) (fun cq3 => ?_)
  have B3n := B2n.put cq3 (rI (gC g2n) 144 (fun _ => 0))
  generalize gPut g2n cq3 (rI (gC g2n) 144 (fun _ => 0)) = g3n at B3n ⊢
  rw [B2n.1.2] at B3n
  refine x_eq (st2 := [.ref cq3, .ref (gA g3n 327)]) rfl rfl (by rw [B3n.a]) ?_
  refine x_putR2 (pc := 102) 327 18 (ty := tyX7 18) rfl dX7_init_102 B3n.k B3n.o rfl inX7 tyX7 tyX7_ok nmX7 (by decide) tb_729 rfl rfl rfl (tyX7_ok 18 (by decide)) rfl rfl (Nat.le_of_ble_eq_true rfl) (fs' := [.ref aq1, .int 0, .int 0, .int 0, .int 0, .ref aq3, .ref aq5, .ref aq7, .ref aq9, .int 0, .int 0, .ref bq1, .ref bq3, .ref bq5, .int 0, .ref bq7, .ref bq9, .ref cq1, .ref cq3, .null, .null, .null, .int 0, .int 0]) (by simp only [List.set_cons_succ, List.set_cons_zero]) ?_
  have B4n := B3n.set (.inr (7, [.ref aq1, .int 0, .int 0, .int 0, .int 0, .ref aq3, .ref aq5, .ref aq7, .ref aq9, .int 0, .int 0, .ref bq1, .ref bq3, .ref bq5, .int 0, .ref bq7, .ref bq9, .ref cq1, .ref cq3, .null, .null, .null, .int 0, .int 0]))
  generalize gSet g3n 327 (.inr (7, [.ref aq1, .int 0, .int 0, .int 0, .int 0, .ref aq3, .ref aq5, .ref aq7, .ref aq9, .int 0, .int 0, .ref bq1, .ref bq3, .ref bq5, .int 0, .ref bq7, .ref bq9, .ref cq1, .ref cq3, .null, .null, .null, .int 0, .int 0])) = g4n at B4n ⊢
  refine x_aload_n (pc := 105) dX7_init_105 0 rfl rfl ?_
  refine x_bipush (pc := 106) (v := 12) dX7_init_106 (by decide) ?_
  refine x_newaZ (pc := 108) (N := 12) B4n.cl dX7_init_108 tb_154 (by decide) rfl (Nat.le_of_ble_eq_true rfl) (Nat.le_of_ble_eq_true rfl) (Nat.le_of_ble_eq_true rfl) (fun cq5 => ?_)
  have B5n := B4n.put cq5 (rZ (gC g4n) 12 (fun _ => 0))
  generalize gPut g4n cq5 (rZ (gC g4n) 12 (fun _ => 0)) = g5n at B5n ⊢
  rw [B4n.1.2] at B5n
  refine x_eq (st2 := [.ref cq5, .ref (gA g5n 327)]) rfl rfl (by rw [B5n.a]) ?_
  refine x_putR2 (pc := 110) 327 19 (ty := tyX7 19) rfl dX7_init_110 B5n.k B5n.o rfl inX7 tyX7 tyX7_ok nmX7 (by decide) tb_730 rfl rfl rfl (tyX7_ok 19 (by decide)) rfl rfl (Nat.le_of_ble_eq_true rfl) (fs' := [.ref aq1, .int 0, .int 0, .int 0, .int 0, .ref aq3, .ref aq5, .ref aq7, .ref aq9, .int 0, .int 0, .ref bq1, .ref bq3, .ref bq5, .int 0, .ref bq7, .ref bq9, .ref cq1, .ref cq3, .ref cq5, .null, .null, .int 0, .int 0]) (by simp only [List.set_cons_succ, List.set_cons_zero]) ?_
  have B6n := B5n.set (.inr (7, [.ref aq1, .int 0, .int 0, .int 0, .int 0, .ref aq3, .ref aq5, .ref aq7, .ref aq9, .int 0, .int 0, .ref bq1, .ref bq3, .ref bq5, .int 0, .ref bq7, .ref bq9, .ref cq1, .ref cq3, .ref cq5, .null, .null, .int 0, .int 0]))
  generalize gSet g5n 327 (.inr (7, [.ref aq1, .int 0, .int 0, .int 0, .int 0, .ref aq3, .ref aq5, .ref aq7, .ref aq9, .int 0, .int 0, .ref bq1, .ref bq3, .ref bq5, .int 0, .ref bq7, .ref bq9, .ref cq1, .ref cq3, .ref cq5, .null, .null, .int 0, .int 0])) = g6n at B6n ⊢
  refine x_aload_n (pc := 113) dX7_init_113 0 rfl rfl ?_
  refine x_bipush (pc := 114) (v := 12) dX7_init_114 (by decide) ?_
  refine x_newaZ (pc := 116) (N := 12) B6n.cl dX7_init_116 tb_154 (by decide) rfl (Nat.le_of_ble_eq_true rfl) (Nat.le_of_ble_eq_true rfl) (Nat.le_of_ble_eq_true rfl) (fun cq7 => ?_)
  have B7n := B6n.put cq7 (rZ (gC g6n) 12 (fun _ => 0))
  generalize gPut g6n cq7 (rZ (gC g6n) 12 (fun _ => 0)) = g7n at B7n ⊢
  rw [B6n.1.2] at B7n
  refine x_eq (st2 := [.ref cq7, .ref (gA g7n 327)]) rfl rfl (by rw [B7n.a]) ?_
  refine x_putR2 (pc := 118) 327 20 (ty := tyX7 20) rfl dX7_init_118 B7n.k B7n.o rfl inX7 tyX7 tyX7_ok nmX7 (by decide) tb_731 rfl rfl rfl (tyX7_ok 20 (by decide)) rfl rfl (Nat.le_of_ble_eq_true rfl) (fs' := [.ref aq1, .int 0, .int 0, .int 0, .int 0, .ref aq3, .ref aq5, .ref aq7, .ref aq9, .int 0, .int 0, .ref bq1, .ref bq3, .ref bq5, .int 0, .ref bq7, .ref bq9, .ref cq1, .ref cq3, .ref cq5, .ref cq7, .null, .int 0, .int 0]) (by simp only [List.set_cons_succ, List.set_cons_zero]) ?_
  have B8n := B7n.set (.inr (7, [.ref aq1, .int 0, .int 0, .int 0, .int 0, .ref aq3, .ref aq5, .ref aq7, .ref aq9, .int 0, .int 0, .ref bq1, .ref bq3, .ref bq5, .int 0, .ref bq7, .ref bq9, .ref cq1, .ref cq3, .ref cq5, .ref cq7, .null, .int 0, .int 0]))
  generalize gSet g7n 327 (.inr (7, [.ref aq1, .int 0, .int 0, .int 0, .int 0, .ref aq3, .ref aq5, .ref aq7, .ref aq9, .int 0, .int 0, .ref bq1, .ref bq3, .ref bq5, .int 0, .ref bq7, .ref bq9, .ref cq1, .ref cq3, .ref cq5, .ref cq7, .null, .int 0, .int 0])) = g8n at B8n ⊢
  refine x_aload_n (pc := 121) dX7_init_121 0 rfl rfl ?_
  refine x_bipush (pc := 122) (v := 12) dX7_init_122 (by decide) ?_
  refine x_newaI (pc := 124) (N := 12) B8n.cl dX7_init_124 tb_107 (by decide) rfl (Nat.le_of_ble_eq_true rfl) (Nat.le_of_ble_eq_true rfl) (Nat.le_of_ble_eq_true rfl) (fun cq9 => ?_)
  have B9n := B8n.put cq9 (rI (gC g8n) 12 (fun _ => 0))
  generalize gPut g8n cq9 (rI (gC g8n) 12 (fun _ => 0)) = g9n at B9n ⊢
  rw [B8n.1.2] at B9n
  refine x_eq (st2 := [.ref cq9, .ref (gA g9n 327)]) rfl rfl (by rw [B9n.a]) ?_
  refine x_putR2 (pc := 126) 327 21 (ty := tyX7 21) rfl dX7_init_126 B9n.k B9n.o rfl inX7 tyX7 tyX7_ok nmX7 (by decide) tb_732 rfl rfl rfl (tyX7_ok 21 (by decide)) rfl rfl (Nat.le_of_ble_eq_true rfl) (fs' := [.ref aq1, .int 0, .int 0, .int 0, .int 0, .ref aq3, .ref aq5, .ref aq7, .ref aq9, .int 0, .int 0, .ref bq1, .ref bq3, .ref bq5, .int 0, .ref bq7, .ref bq9, .ref cq1, .ref cq3, .ref cq5, .ref cq7, .ref cq9, .int 0, .int 0]) (by simp only [List.set_cons_succ, List.set_cons_zero]) ?_
  have B10n := B9n.set (.inr (7, [.ref aq1, .int 0, .int 0, .int 0, .int 0, .ref aq3, .ref aq5, .ref aq7, .ref aq9, .int 0, .int 0, .ref bq1, .ref bq3, .ref bq5, .int 0, .ref bq7, .ref bq9, .ref cq1, .ref cq3, .ref cq5, .ref cq7, .ref cq9, .int 0, .int 0]))
  generalize gSet g9n 327 (.inr (7, [.ref aq1, .int 0, .int 0, .int 0, .int 0, .ref aq3, .ref aq5, .ref aq7, .ref aq9, .int 0, .int 0, .ref bq1, .ref bq3, .ref bq5, .int 0, .ref bq7, .ref bq9, .ref cq1, .ref cq3, .ref cq5, .ref cq7, .ref cq9, .int 0, .int 0])) = g10n at B10n ⊢
  exact kk cq1 cq3 cq5 cq7 cq9 g10n B10n
set_option maxRecDepth 100000 in
set_option maxHeartbeats 4000000 in
theorem i_X7 {l : Launch} {G : Gx} {mem : Mem} (hK : gK G = 328) (hO : gO G 327 = some (.inr (7, [.null, .int 0, .int 0, .int 0, .int 0, .null, .null, .null, .null, .int 0, .int 0, .null, .null, .null, .int 0, .null, .null, .null, .null, .null, .null, .null, .int 0, .int 0]))) (hCl : Cl G) (hN : ∀ j, j < 327 → gO G j = none) : Ctg l M_X7_init G 15 3280 [.ref (gA G 327)] mem (fun o G' m' => o = none ∧ (gD G' = gD G ∧ gC G' = gC G) ∧ Mn G' ∧ (∀ i, i ≤ 327 → gA G' i = gA G i) ∧ (∀ i, i < 327 → m' i = mem i) ∧ (∀ i, 330 ≤ i → i < 343 → m' i = fun _ => 0) ∧ m' 328 = (fun _ => 0) ∧ (∀ j, m' 327 j = if j = 3 then 12 else 0) ∧ ∀ v, m' 329 v = if v < 12 then 1 else 0) := by
  refine Ctg.of (lv := [(0, .ref (gA G 327))]) (by decide) (Nat.le_of_ble_eq_true rfl) rfl ?_
  have B0 := Bd.nil hK hO hCl (fun _ => rI (gC G) 0 (fun _ => 0)) (fun _ => 0)
  refine x_aload_n (pc := 0) dX7_init_0 0 rfl rfl ?_
  refine x_objI (pc := 1) dX7_init_1 tb_710 tb_74 tb_75 (Nat.le_of_ble_eq_true rfl) (Nat.le_of_ble_eq_true rfl) (by decide) ?_
  refine mseg0 B0 (fun aq1 aq3 aq5 aq7 aq9 g1 B1 => ?_)
  refine mseg1 B1 (fun bq1 bq3 bq5 bq7 bq9 g2 B2 => ?_)
  refine mseg2 B2 (fun cq1 cq3 cq5 cq7 cq9 g3 B3 => ?_)
  have a328 : gA g3 328 = aq1 := (B3.2.2.2.2.2.2 328 (by omega) (by omega)).2.trans rfl
  have a329 : gA g3 329 = aq3 := (B3.2.2.2.2.2.2 329 (by omega) (by omega)).2.trans rfl
  have a330 : gA g3 330 = aq5 := (B3.2.2.2.2.2.2 330 (by omega) (by omega)).2.trans rfl
  have a331 : gA g3 331 = aq7 := (B3.2.2.2.2.2.2 331 (by omega) (by omega)).2.trans rfl
  have a332 : gA g3 332 = aq9 := (B3.2.2.2.2.2.2 332 (by omega) (by omega)).2.trans rfl
  have a333 : gA g3 333 = bq1 := (B3.2.2.2.2.2.2 333 (by omega) (by omega)).2.trans rfl
  have a334 : gA g3 334 = bq3 := (B3.2.2.2.2.2.2 334 (by omega) (by omega)).2.trans rfl
  have a335 : gA g3 335 = bq5 := (B3.2.2.2.2.2.2 335 (by omega) (by omega)).2.trans rfl
  have a336 : gA g3 336 = bq7 := (B3.2.2.2.2.2.2 336 (by omega) (by omega)).2.trans rfl
  have a337 : gA g3 337 = bq9 := (B3.2.2.2.2.2.2 337 (by omega) (by omega)).2.trans rfl
  have a338 : gA g3 338 = cq1 := (B3.2.2.2.2.2.2 338 (by omega) (by omega)).2.trans rfl
  have a339 : gA g3 339 = cq3 := (B3.2.2.2.2.2.2 339 (by omega) (by omega)).2.trans rfl
  have a340 : gA g3 340 = cq5 := (B3.2.2.2.2.2.2 340 (by omega) (by omega)).2.trans rfl
  have a341 : gA g3 341 = cq7 := (B3.2.2.2.2.2.2 341 (by omega) (by omega)).2.trans rfl
  have a342 : gA g3 342 = cq9 := (B3.2.2.2.2.2.2 342 (by omega) (by omega)).2.trans rfl
  refine B3.view ?_ ?_ ?_
  · refine Eq.trans (b := .inr (7, [.ref (gA g3 328), .int 0, .int 0, .int 0, .int 0, .ref (gA g3 329), .ref (gA g3 330), .ref (gA g3 331), .ref (gA g3 332), .int 0, .int 0, .ref (gA g3 333), .ref (gA g3 334), .ref (gA g3 335), .int 0, .ref (gA g3 336), .ref (gA g3 337), .ref (gA g3 338), .ref (gA g3 339), .ref (gA g3 340), .ref (gA g3 341), .ref (gA g3 342), .int 0, .int 0])) rfl ?_
    rw [a328, a329, a330, a331, a332, a333, a334, a335, a336, a337, a338, a339, a340, a341, a342]
  · intro j h1 h2
    have cs : j = 328 ∨ j = 329 ∨ j = 330 ∨ j = 331 ∨ j = 332 ∨ j = 333 ∨ j = 334 ∨ j = 335 ∨ j = 336 ∨ j = 337 ∨ j = 338 ∨ j = 339 ∨ j = 340 ∨ j = 341 ∨ j = 342 := by omega
    rcases cs with rfl | rfl | rfl | rfl | rfl | rfl | rfl | rfl | rfl | rfl | rfl | rfl | rfl | rfl | rfl <;> rfl
  · have hM : Mn (gEnd G g3 327) := ⟨B3.2.1, fun j => by
      show (if j < 327 then gO G j else none) = none
      by_cases c : j < 327
      · rw [if_pos c]; exact hN j c
      · rw [if_neg c]⟩
    have aE : gA (gEnd G g3 327) 327 = gA G 327 := B3.a
    have aE2 : ∀ i, i ≤ 327 → gA (gEnd G g3 327) i = gA G i := B3.2.2.1
    have eD : gD (gEnd G g3 327) = gD G ∧ gC (gEnd G g3 327) = gC G := ⟨rfl, rfl⟩
    generalize gEnd G g3 327 = ge at hM aE aE2 eD ⊢
    refine x_aload_n (pc := 129) dX7_init_129 0 rfl rfl ?_
    refine x_bipush (pc := 130) (v := 12) dX7_init_130 (by decide) ?_
    refine x_eq (st2 := [.int 12, .ref (gA ge 327)]) rfl rfl (by rw [aE]) ?_
    refine x_put (pc := 132) 327 3 dX7_init_132 (mK hM (by decide)) (mc_327 hM) rfl inX7 tyX7 tyX7_ok nmX7 (by decide) tb_714 rfl rfl (by decide +kernel) (fun _ => Nat.le_of_ble_eq_true rfl) (fun _ _ => rfl) ?_
    refine x_iconst (pc := 135) (v := 0) dX7_init_135 (by decide) ?_
    refine x_istore_n (pc := 136) (lv' := [(1, .int (nI 0)), (0, .ref (gA G 327))]) dX7_init_136 rfl (by decide) rfl ?_
    refine now_X7 (m0 := mEnd mem 327) hM aE (fun mk hk => ?_) 12 0 rfl _ ⟨fun i hi => if_neg hi.1, fun j => ?_, fun v => ?_⟩
    · exact x_vret (pc := 156) dX7_init_156 rfl eD.1 eD.2 ⟨rfl, eD, hM, aE2, fun i hi => (hk.1 i (by omega)).trans (if_pos hi), fun i hi hi2 => (hk.1 i (by omega)).trans (if_neg (by omega)), (hk.1 328 (by decide)).trans (if_neg (by decide)), hk.2.1, hk.2.2⟩
    · show (if (327 : Nat) = 327 then upd (mEnd mem 327 327) 3 12 else mEnd mem 327 327) j = _
      rw [if_pos rfl]
      unfold upd mEnd
      rw [if_neg (Nat.lt_irrefl _)]
    · show (if (329 : Nat) = 327 then upd (mEnd mem 327 327) 3 12 else mEnd mem 327 329) v = _
      rw [if_neg (by decide), if_neg (Nat.not_lt_zero v)]
      unfold mEnd
      rw [if_neg (by decide)]
