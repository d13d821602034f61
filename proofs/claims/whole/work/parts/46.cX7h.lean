/-! the model's centre, median -/
section KM
variable {l : Launch} {G : Gx} {mem : Mem} {n k : Nat} {w : Nat → Nat} {E : Nat → Nat → Nat} {c : Nat → Nat → Prop} {D H : Nat → Nat → Nat}
/-- the least so far -/
def LSo (p : Nat → Prop) (f : Nat → Nat) (j : Nat) (a b : Int32) : Prop := (a = -9 ∧ ∀ x, x < j → ¬ p x) ∨ ∃ q, AMin p f j q ∧ a = nI q ∧ b = nI (f q)
theorem c_leastOf (hG : Mn G) {r : Nat} (hr : Ra G r) (hr2 : r < 336) (h : RoAt mem r w E) (F : Fst n w E c D H) (h3 : mem 327 3 = nI n) {v : Nat} (hv : v < n) (z3 : Int32) : CtI l M_X7_leastOf G [.ref (gA G 327), .ref (gA G r), .int (nI v), .int z3] mem (fun x m => FOut mem m ∧ ∃ q, x = nI q ∧ (z3 = 0 → AMin (c v) (Ecc n c D) n q) ∧ (¬ z3 = 0 → AMin (c v) (Cst n w c D) n q)) := by
  have hn := F.le
  have T := F.tD
  refine CtI_of (by decide) (Nat.le_of_ble_eq_true rfl) rfl (t_X7_leastOf_0 hG hr _ _ mem ?_)
  refine ⟨_, c_layFar hG hr h F hv, ?_⟩
  rintro m1 ⟨a1, a2⟩
  have o1 : FOut mem m1 := fun a h1 h2 _ => a1 a h1 h2
  refine up_loop (P := fun j => ∀ m : Mem, (∀ a, a ≠ 338 → m a = m1 a) → (∀ x, x < j → m 338 x = m1 336 x) → XI l M_X7_leastOf G _ m 9 [(0, .ref (gA G 327)), (1, .ref (gA G r)), (3, .int z3), (4, .int (nI j))] []) (n := n) (Nat.zero_le _) ?_ ?_ m1 (fun _ _ => rfl) (fun x q => absurd q (Nat.not_lt_zero x))
  · intro m i1 i2
    refine t_X7_leastOf_9 hG hr _ _ m ?_
    have o2 : FOut mem m := o1.tr (fun a _ _ h3 => i1 a h3)
    refine ⟨fun _ => ?_, fun z => absurd (by rw [o2.n3 h3]; exact (i_nle (by omega) (by omega)).mpr (Nat.le_refl _)) z⟩
    have f9 : ∀ x, x < n → (m 338 x = -9 ↔ ¬ c v x) := fun x hx => by
      rw [i2 x hx]
      exact ⟨fun z q => i_n9 (k := D v x) (by have := F.dlt q; omega) (((a2 x (by omega)).1 q).1.symm.trans z), fun q => ((a2 x (by omega)).2 q).1⟩
    refine up_loop (P := fun j => ∀ (m2 : Mem) (a4 a5 : Int32), (∀ a, a ≠ 336 → a ≠ 337 → m2 a = m a) → (z3 = 0 → LSo (c v) (Ecc n c D) j a4 a5) → (¬ z3 = 0 → LSo (c v) (Cst n w c D) j a4 a5) → XI l M_X7_leastOf G _ m2 48 [(0, .ref (gA G 327)), (1, .ref (gA G r)), (3, .int z3), (4, .int a4), (5, .int a5), (6, .int (nI j))] []) (n := n) (Nat.zero_le _) ?_ ?_ m (-9) 0 (fun _ _ _ => rfl) (fun _ => Or.inl ⟨rfl, fun x q => absurd q (Nat.not_lt_zero x)⟩) (fun _ => Or.inl ⟨rfl, fun x q => absurd q (Nat.not_lt_zero x)⟩)
    · intro m2 a4 a5 j1 j2 j3
      refine t_X7_leastOf_48 hG hr _ _ _ _ m2 ?_
      have o3 : FOut mem m2 := o2.tr (fun a h1 h2 _ => j1 a h1 h2)
      refine ⟨fun _ => ⟨o3, ?_⟩, fun z => absurd (by rw [o3.n3 h3]; exact (i_nle (by omega) (by omega)).mpr (Nat.le_refl _)) z⟩
      by_cases q : z3 = 0
      · rcases j2 q with ⟨-, e⟩ | ⟨u, e1, e2, -⟩
        · exact absurd (T.rf hv) (e v hv)
        · exact ⟨u, e2, fun _ => e1, fun y => absurd q y⟩
      · rcases j3 q with ⟨-, e⟩ | ⟨u, e1, e2, -⟩
        · exact absurd (T.rf hv) (e v hv)
        · exact ⟨u, e2, fun y => absurd y q, fun _ => e1⟩
    · intro j _ hj ih m2 a4 a5 j1 j2 j3
      refine t_X7_leastOf_48 hG hr _ _ _ _ m2 ?_
      have o3 : FOut mem m2 := o2.tr (fun a h1 h2 _ => j1 a h1 h2)
      -- a step
      have step : ∀ (f : Nat → Nat), (∀ x, f x ≤ 1293732) → c v j → LSo (c v) f j a4 a5 → (a4 = -9 → LSo (c v) f (j + 1) (nI j) (nI (f j))) ∧ (¬ a4 = -9 → (a5 ≤ nI (f j) → LSo (c v) f (j + 1) a4 a5) ∧ (¬ a5 ≤ nI (f j) → LSo (c v) f (j + 1) (nI j) (nI (f j)))) := by
        intro f hb q hl
        rcases hl with ⟨e1, e2⟩ | ⟨u, e1, e2, e3⟩
        · exact ⟨fun _ => Or.inr ⟨j, AMin.first e2 q, rfl, rfl⟩, fun z => absurd e1 z⟩
        · have bu := hb u
          have bj := hb j
          have ul := e1.1
          refine ⟨fun z => absurd (e2.symm.trans z) (i_n9 (by omega)), fun _ => ⟨fun z => ?_, fun z => ?_⟩⟩
          · rw [e3, i_nle (by omega) (by omega)] at z
            exact Or.inr ⟨u, e1.keep (fun _ => z), e2, e3⟩
          · rw [e3, i_nle (by omega) (by omega)] at z
            exact Or.inr ⟨j, e1.new q (by omega), rfl, rfl⟩
      have skip : ∀ (f : Nat → Nat), ¬ c v j → LSo (c v) f j a4 a5 → LSo (c v) f (j + 1) a4 a5 := by
        intro f q hl
        rcases hl with ⟨e1, e2⟩ | ⟨u, e1, e2, e3⟩
        · refine Or.inl ⟨e1, fun x hx => ?_⟩
          by_cases e : x = j
          · rw [e]; exact q
          · exact e2 x (by omega)
        · exact Or.inr ⟨u, e1.keep (fun y => absurd y q), e2, e3⟩
      rw [o3.n3 h3, i_cl (by omega), nI_1 j, j1 338 (by omega) (by omega)]
      refine ⟨fun z => absurd ((i_nle (by omega) (by omega)).mp z) (by omega), fun _ => ⟨i_in (by omega) (by decide), fun z => ?_, fun z => ⟨fun y => ?_, fun y => ?_⟩⟩⟩
      · have q := (f9 j hj).mp z
        exact ih m2 a4 a5 j1 (fun y => skip _ q (j2 y)) (fun y => skip _ q (j3 y))
      · have q : c v j := Classical.byContradiction fun q => z ((f9 j hj).mpr q)
        refine ⟨_, c_eccOf hG hr (o3.ro hr2 h) F (o3.n3 h3) hj, ?_⟩
        rintro x m3 ⟨k1, rfl⟩
        have j4 : ∀ a, a ≠ 336 → a ≠ 337 → m3 a = m a := fun a h1 h2 => (k1 a h1 h2).trans (j1 a h1 h2)
        have st := step _ (fun x => by have := Ecc_le F x; omega) q (j2 y)
        exact ⟨fun g => ih m3 _ _ j4 (fun _ => st.1 g) (fun n => absurd y n), fun g => ⟨fun g2 => ih m3 _ _ j4 (fun _ => (st.2 g).1 g2) (fun n => absurd y n), fun g2 => ih m3 _ _ j4 (fun _ => (st.2 g).2 g2) (fun n => absurd y n)⟩⟩
      · have q : c v j := Classical.byContradiction fun q => z ((f9 j hj).mpr q)
        refine ⟨_, c_costOf hG hr hr2 (o3.ro hr2 h) F (o3.n3 h3) hj, ?_⟩
        rintro x m3 ⟨k1, rfl⟩
        have j4 : ∀ a, a ≠ 336 → a ≠ 337 → m3 a = m a := fun a h1 h2 => (k1 a h1 h2).trans (j1 a h1 h2)
        have st := step _ (fun x => Cst_le F x) q (j3 y)
        exact ⟨fun g => ih m3 _ _ j4 (fun n => absurd n y) (fun _ => st.1 g), fun g => ⟨fun g2 => ih m3 _ _ j4 (fun n => absurd n y) (fun _ => (st.2 g).1 g2), fun g2 => ih m3 _ _ j4 (fun n => absurd n y) (fun _ => (st.2 g).2 g2)⟩⟩
  · intro j _ hj ih m i1 i2
    refine t_X7_leastOf_9 hG hr _ _ m ?_
    have o2 : FOut mem m := o1.tr (fun a _ _ h3 => i1 a h3)
    have jin := i_in (k := j) (n := 12) (by omega) (by decide)
    rw [o2.n3 h3, i_cl (by omega), nI_1 j, i1 336 (by omega)]
    refine ⟨fun z => absurd ((i_nle (by omega) (by omega)).mp z) (by omega), fun _ => ⟨jin, jin, ih _ (fun a ha => by rw [wr_n ha]; exact i1 a ha) (fun x hx => ?_)⟩⟩
    rw [wr_at]
    by_cases e : x = j
    · rw [if_pos ⟨rfl, e⟩, e]
    · rw [if_neg (by omega)]; exact i2 x (by omega)
end KM
