/-! THE LAW: its loop -/
section LW
variable {l : Launch} {nm : String} {q : E5} {G : Gx}
theorem i_nat {x : Int32} (h : 0 ≤ x.toInt) : ∃ k : Nat, k < 2147483648 ∧ x = nI k := i_arg h (by have := i_rng x; omega)
abbrev lvL (q : E5) (G : Gx) (i : Nat) : Lv := [(0, .ref q.2.2.1), (1, .ref (gA G 0)), (2, .ref (gA G 327)), (3, .int 1), (4, .int (nI i))]
theorem law_loop (hG : M2 G) (hL : q.2.2.2.1 ≤ 260) : ∀ (mem : Mem) (S : Sta), A2 mem S S → XLw l nm q G mem 24 (lvL q G 0) [] := by
  have L := Mn_L hG
  have R := Mn_R hG
  refine up_loop (P := fun i => ∀ (mem : Mem) (S : Sta), A2 mem S S → XLw l nm q G mem 24 (lvL q G i) []) (n := 7) (Nat.zero_le _) ?_ ?_
  · intro m S I
    exact t_L_law_24 hG _ _ m ⟨fun _ => t_L_law_138 hG _ m rfl, fun z => absurd (by decide) z⟩
  · intro i _ hi ih m S I
    refine t_L_law_24 hG _ _ m ⟨fun z => absurd ((i_nle (a := 7) (by decide) (by omega)).mp z) (by omega), fun _ => ⟨fun z => absurd z (by decide), fun _ => ?_⟩⟩
    have e2 : 2 * nI i = nI (2 * i) := pk_mul 2 i
    rw [e2, nI_1]
    refine ⟨_, c_cell (k := 2 * i) (by omega) hL, ?_⟩
    rintro x m1 ⟨rfl, hx⟩
    refine ⟨_, c_cell (k := 2 * i + 1) (by omega) hL, ?_⟩
    rintro y m2 ⟨rfl, hy⟩
    obtain ⟨xx, hx', rfl⟩ := i_nat hx
    obtain ⟨yy, hy', rfl⟩ := i_nat hy
    obtain ⟨r, S', g⟩ := d_act S (nI xx) hy'
    refine ⟨_, two_LE hG I (g l q (gL G) _ L I.1), ?_⟩
    rintro r1 m3 ⟨e1, I⟩
    refine ⟨_, two_RE hG I (g l q (gR G 327) _ R I.2), ?_⟩
    rintro r2 m4 ⟨e2, I⟩
    refine ⟨fun z => absurd (e1.trans e2.symm) z, fun _ => ⟨_, two_R hG I (l_errors R I.2), ?_⟩⟩
    rintro r3 m5 ⟨rfl, I⟩
    refine ⟨fun z => absurd z (by decide), fun _ => ⟨_, l_alike hG I, ?_⟩⟩
    rintro r4 m6 ⟨rfl, I⟩
    refine ⟨fun z => absurd z (by decide), fun _ => t_L_law_91 hG _ _ m6 ⟨_, two_L hG I (l_built L I.1 hy'), ?_⟩⟩
    rintro r5 m7 ⟨rfl, I⟩
    refine ⟨fun z => absurd z (by decide), fun _ => ⟨_, two_L hG I (l_ahead L I.1 hy'), ?_⟩⟩
    rintro r6 m8 ⟨rfl, I⟩
    refine ⟨fun z => absurd z (by decide), fun _ => ⟨_, two_R hG I (l_ahead R I.2 hy'), ?_⟩⟩
    rintro r7 m9 ⟨rfl, I⟩
    refine ⟨fun z => absurd z (by decide), fun _ => ⟨_, l_alike hG I, ?_⟩⟩
    rintro r8 m10 ⟨rfl, I⟩
    refine ⟨fun z => absurd z (by decide), fun _ => t_L_law_132 hG _ _ m10 ?_⟩
    rw [nI_1]
    exact ih m10 _ I
end LW
