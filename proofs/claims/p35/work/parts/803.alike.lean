/-! the law: what is now; both objects answer alike -/
noncomputable section
def vwI (n : Nat) (x : Fw) (u : Nat) : Int32 := if u < n then nI (x.1 u) else -1
def ewI (n : Nat) (x : Fw) (u v : Nat) : Int32 := if u < n ∧ v < n then (if 0 < x.2 u v then nI (x.2 u v) else -9) else -1
def nwR (n : Nat) (x : Fw) (u : Nat) (z : Int64) : Nat → Int64
  | 0 => z
  | k + 1 => ((113 * nwR n x u z k) - (113 * nwR n x u z k) / 1000000009 * 1000000009) + ((ewI n x u k : Int32).toInt64)
def nwO (n : Nat) (x : Fw) : Nat → Int64
  | 0 => 1
  | k + 1 => nwR n x k (((1009 * nwO n x k) - (1009 * nwO n x k) / 1000000007 * 1000000007) + ((vwI n x k : Int32).toInt64)) k
end
section LN
variable {l : Launch} {G : Gx} {mem m m' : Mem} {S : Sta} {n : Nat} {x : Fw}
theorem vwI_of {u : Nat} {r : Int32} (hn : n ≤ 12) (hu : u < 2147483648) (h : OneAns n (aVw n x) (nI u) r) : r = vwI n x u := by
  unfold vwI
  by_cases c : u < n
  · rw [if_pos c]; exact h.of c hn
  · rw [if_neg c]
    exact h.no (fun z => by have := z.2; rw [i_nI hu] at this; omega) hn
theorem ewI_of {u v : Nat} {r : Int32} (hn : n ≤ 12) (hu : u < 2147483648) (hv : v < 2147483648) (h : TwoAns n (aEw n x) (nI u) (nI v) r) : r = ewI n x u v := by
  unfold ewI
  by_cases c : u < n ∧ v < n
  · rw [if_pos c]
    rcases h.of c.1 c.2 hn with ⟨h1, h2⟩ | ⟨h1, h2⟩
    · rw [if_pos h1]; exact h2
    · rw [if_neg (by omega)]; exact h2
  · rw [if_neg c]
    exact h.no (fun z => by
      have a := z.1.2
      have b := z.2.2
      rw [i_nI hu] at a
      rw [i_nI hv] at b
      omega) hn
theorem l_now (hG : Mn G) (I : At mem S) : CtL l M_L_now G [.ref (gA G 0)] mem (fun r m => r = nwO S.1 S.2.1 12 ∧ At m S) := by
  have hn := I.n12
  refine CtL_of (by decide) (Nat.le_of_ble_eq_true rfl) rfl (t_L_now_0 hG mem ?_)
  refine up_loop (P := fun u => ∀ m : Mem, At m S → XL l M_L_now G _ m 4 [(0, .ref (gA G 0)), (1, .long (nwO S.1 S.2.1 u)), (3, .int (nI u))] []) (n := 12) (Nat.zero_le _) ?_ ?_ mem I
  · intro m I
    exact t_L_now_4 hG _ _ m ⟨fun _ => ⟨rfl, I⟩, fun z => absurd (by decide) z⟩
  · intro u _ hu ih m I
    refine t_L_now_4 hG _ _ m ⟨fun z => absurd ((i_nle (a := 12) (by decide) (by omega)).mp z) (by omega), fun _ => ⟨_, q_vertexWeight hG I _, ?_⟩⟩
    rintro r m2 ⟨k1, k2⟩
    have I := I.keep k1
    rw [vwI_of hn (by omega) k2]
    refine up_loop (P := fun v => ∀ m : Mem, At m S → XL l M_L_now G _ m 30 [(0, .ref (gA G 0)), (1, .long (nwR S.1 S.2.1 u (((1009 * nwO S.1 S.2.1 u) - (1009 * nwO S.1 S.2.1 u) / 1000000007 * 1000000007) + ((vwI S.1 S.2.1 u : Int32).toInt64)) v)), (3, .int (nI u)), (4, .int (nI v))] []) (n := u) (Nat.zero_le _) ?_ ?_ m2 I
    · intro m I
      refine t_L_now_30 hG _ _ _ m ⟨fun _ => ?_, fun z => absurd ((i_nle (by omega) (by omega)).mpr (Nat.le_refl _)) z⟩
      rw [nI_1]
      exact ih m I
    · intro v _ hv ih2 m I
      refine t_L_now_30 hG _ _ _ m ⟨fun z => absurd ((i_nle (by omega) (by omega)).mp z) (by omega), fun _ => ⟨_, q_edgeWeight hG I _ _, ?_⟩⟩
      rintro r m2 ⟨k1, k2⟩
      have I := I.keep k1
      rw [ewI_of hn (by omega) (by omega) k2, nI_1]
      exact ih2 m2 I
end LN
section LA
variable {l : Launch} {G : Gx} {mem m m' : Mem} {S T : Sta} {n : Nat} {x : Fw}
theorem qL {M : MTy} {As : List Value} {A : Int32 → Prop} (hG : M2 G) (I : A2 mem S T) (h : CtI l M (gL G) (.ref (gA G 0) :: As) mem (fun r m => Keep mem m ∧ A r)) : CtI l M G (.ref (gA G 0) :: As) mem (fun r m => A r ∧ A2 m S T) := two_L hG I (h.mono fun _ _ k => ⟨k.2, I.1.keep k.1⟩)
theorem qR {M : MTy} {As : List Value} {A : Int32 → Prop} (hG : M2 G) (I : A2 mem S T) (h : CtI l M (gR G 327) (.ref (gA G 327) :: As) (sh mem) (fun r m => Keep (sh mem) m ∧ A r)) : CtI l M G (.ref (gA G 327) :: As) mem (fun r m => A r ∧ A2 m S T) := two_R hG I (h.mono fun _ _ k => ⟨k.2, I.2.keep k.1⟩)
theorem qLL {M : MTy} {As : List Value} {A : Int64 → Prop} (hG : M2 G) (I : A2 mem S T) (h : CtL l M (gL G) (.ref (gA G 0) :: As) mem (fun r m => Keep mem m ∧ A r)) : CtL l M G (.ref (gA G 0) :: As) mem (fun r m => A r ∧ A2 m S T) := two_LL hG I (h.mono fun _ _ k => ⟨k.2, I.1.keep k.1⟩)
theorem qRL {M : MTy} {As : List Value} {A : Int64 → Prop} (hG : M2 G) (I : A2 mem S T) (h : CtL l M (gR G 327) (.ref (gA G 327) :: As) (sh mem) (fun r m => Keep (sh mem) m ∧ A r)) : CtL l M G (.ref (gA G 327) :: As) mem (fun r m => A r ∧ A2 m S T) := two_RL hG I (h.mono fun _ _ k => ⟨k.2, I.2.keep k.1⟩)
theorem l_alike (hG : M2 G) (I : A2 mem S S) : CtI l M_L_alike G [.ref (gA G 0), .ref (gA G 327)] mem (fun r m => r = 1 ∧ A2 m S S) := by
  have hn := I.1.n12
  have gd0 := I.1.good
  have L := Mn_L hG
  have R := Mn_R hG
  refine CtI_of (by decide) (Nat.le_of_ble_eq_true rfl) rfl (t_L_alike_0 hG mem ?_)
  refine ⟨_, two_LL hG I (l_now L I.1), ?_⟩
  rintro r1 m1 ⟨e1, I⟩
  refine ⟨_, two_RL hG I (l_now R I.2), ?_⟩
  rintro r2 m2 ⟨e2, I⟩
  refine ⟨fun z => absurd ((lg_eq _ _).mpr (e1.trans e2.symm)) z, fun _ => ?_⟩
  refine ⟨_, qL hG I (q_errorPosition L I.1 ), ?_⟩
  rintro r1 m1 ⟨e1, I⟩
  refine ⟨_, qR hG I (q_errorPosition R I.2 ), ?_⟩
  rintro r2 m2 ⟨e2, I⟩
  refine ⟨fun z => absurd (RdAns.uq e1 e2) z, fun _ => ?_⟩
  refine ⟨_, qL hG I (q_randomChanges L I.1 _ _), ?_⟩
  rintro r1 m1 ⟨e1, I⟩
  refine ⟨_, qR hG I (q_randomChanges R I.2 _ _), ?_⟩
  rintro r2 m2 ⟨e2, I⟩
  refine ⟨fun z => absurd (RndAns.uq e1 e2) z, fun _ => ?_⟩
  refine t_L_alike_44 hG _ (t_L_alike_50 hG _ _ ?_)
  refine up_loop (P := fun k => ∀ m : Mem, A2 m S S → XI l M_L_alike G _ m 52 [(0, .ref (gA G 0)), (1, .ref (gA G 327)), (2, .int 1), (3, .int (nI k))] []) (n := 12) (Nat.zero_le _) ?_ ?_ m2 I
  · intro m I
    exact t_L_alike_52 hG _ _ m ⟨fun _ => ⟨Or.inr rfl, rfl, I⟩, fun z => absurd (by decide) z⟩
  · intro k _ hk ih m I
    refine t_L_alike_52 hG _ _ m ⟨fun z => absurd ((i_nle (a := 12) (by decide) (by omega)).mp z) (by omega), fun _ => ⟨fun z => absurd z (by decide), fun _ => ?_⟩⟩
    refine ⟨_, qL hG I (q_treeOf L I.1 _), ?_⟩
    rintro r1 m1 ⟨e1, I⟩
    refine ⟨_, qR hG I (q_treeOf R I.2 _), ?_⟩
    rintro r2 m2 ⟨e2, I⟩
    refine ⟨fun z => absurd (OneAns.uq hn (fun _ _ h g => aTree.uq h g) e1 e2) z, fun _ => ?_⟩
    refine ⟨_, qL hG I (q_eccentricity L I.1 _), ?_⟩
    rintro r1 m1 ⟨e1, I⟩
    refine ⟨_, qR hG I (q_eccentricity R I.2 _), ?_⟩
    rintro r2 m2 ⟨e2, I⟩
    refine ⟨fun z => absurd (OneAns.uq hn (fun _ _ h g => aEcc.uq h g) e1 e2) z, fun _ => ?_⟩
    refine ⟨_, qL hG I (q_diameter L I.1 _), ?_⟩
    rintro r1 m1 ⟨e1, I⟩
    refine ⟨_, qR hG I (q_diameter R I.2 _), ?_⟩
    rintro r2 m2 ⟨e2, I⟩
    refine ⟨fun z => absurd (OneAns.uq hn (fun _ _ h g => aDia.uq h g) e1 e2) z, fun _ => ?_⟩
    refine t_L_alike_101 hG _ _ ?_
    refine ⟨_, qL hG I (q_diameterEnd L I.1 _ _), ?_⟩
    rintro r1 m1 ⟨e1, I⟩
    refine ⟨_, qR hG I (q_diameterEnd R I.2 _ _), ?_⟩
    rintro r2 m2 ⟨e2, I⟩
    refine ⟨fun z => absurd (OneAns.uq hn (fun _ _ h g => aEnd.uq h g) e1 e2) z, fun _ => ?_⟩
    refine ⟨_, qL hG I (q_centre L I.1 _), ?_⟩
    rintro r1 m1 ⟨e1, I⟩
    refine ⟨_, qR hG I (q_centre R I.2 _), ?_⟩
    rintro r2 m2 ⟨e2, I⟩
    refine ⟨fun z => absurd (OneAns.uq hn (fun _ _ h g => aCen.uq h g) e1 e2) z, fun _ => ?_⟩
    refine ⟨_, qL hG I (q_median L I.1 _), ?_⟩
    rintro r1 m1 ⟨e1, I⟩
    refine ⟨_, qR hG I (q_median R I.2 _), ?_⟩
    rintro r2 m2 ⟨e2, I⟩
    refine ⟨fun z => absurd (OneAns.uq hn (fun _ _ h g => aMed.uq h g) e1 e2) z, fun _ => ?_⟩
    refine t_L_alike_146 hG _ _ ?_
    refine ⟨_, qL hG I (q_cost L I.1 _), ?_⟩
    rintro r1 m1 ⟨e1, I⟩
    refine ⟨_, qR hG I (q_cost R I.2 _), ?_⟩
    rintro r2 m2 ⟨e2, I⟩
    refine ⟨fun z => absurd (OneAns.uq hn (fun _ _ h g => aCst.uq h g) e1 e2) z, fun _ => ?_⟩
    refine ⟨_, qL hG I (q_rounds L I.1 _), ?_⟩
    rintro r1 m1 ⟨e1, I⟩
    refine ⟨_, qR hG I (q_rounds R I.2 _), ?_⟩
    rintro r2 m2 ⟨e2, I⟩
    refine ⟨fun z => absurd (OneAns.uq hn (fun _ _ h g => aRnd.uq h g) e1 e2) z, fun _ => ?_⟩
    refine ⟨_, qL hG I (q_removalRound L I.1 _), ?_⟩
    rintro r1 m1 ⟨e1, I⟩
    refine ⟨_, qR hG I (q_removalRound R I.2 _), ?_⟩
    rintro r2 m2 ⟨e2, I⟩
    refine ⟨fun z => absurd (OneAns.uq hn (fun _ _ h g => aRem.uq h g) e1 e2) z, fun _ => ?_⟩
    refine t_L_alike_185 hG _ _ ?_
    refine ⟨_, qL hG I (q_survivor L I.1 _), ?_⟩
    rintro r1 m1 ⟨e1, I⟩
    refine ⟨_, qR hG I (q_survivor R I.2 _), ?_⟩
    rintro r2 m2 ⟨e2, I⟩
    refine ⟨fun z => absurd (OneAns.uq hn (fun _ _ h g => aSur.uq h g) e1 e2) z, fun _ => ?_⟩
    refine ⟨_, qL hG I (q_balancedCut L I.1 _), ?_⟩
    rintro r1 m1 ⟨e1, I⟩
    refine ⟨_, qR hG I (q_balancedCut R I.2 _), ?_⟩
    rintro r2 m2 ⟨e2, I⟩
    refine ⟨fun z => absurd (OneAns.uq hn (fun _ _ h g => aBal.uq h g) e1 e2) z, fun _ => ?_⟩
    refine ⟨_, qLL hG I (q_expectedReach L I.1 _ _), ?_⟩
    rintro r1 m1 ⟨e1, I⟩
    refine ⟨_, qRL hG I (q_expectedReach R I.2 _ _), ?_⟩
    rintro r2 m2 ⟨e2, I⟩
    refine ⟨fun z => absurd ((lg_eq _ _).mpr (aRea.uq hn e1 e2)) z, fun _ => ?_⟩
    refine t_L_alike_233 hG _ _ ?_
    refine ⟨_, qL hG I (q_meeting L I.1 _ _ _), ?_⟩
    rintro r1 m1 ⟨e1, I⟩
    refine ⟨_, qR hG I (q_meeting R I.2 _ _ _), ?_⟩
    rintro r2 m2 ⟨e2, I⟩
    refine ⟨fun z => absurd (aMeet.uq hn e1 e2) z, fun _ => ?_⟩
    refine ⟨_, qL hG I (q_possibleWeights L I.1 _ _), ?_⟩
    rintro r1 m1 ⟨e1, I⟩
    refine ⟨_, qR hG I (q_possibleWeights R I.2 _ _), ?_⟩
    rintro r2 m2 ⟨e2, I⟩
    refine ⟨fun z => absurd (TwoAns.uq hn (fun _ _ _ _ h g => aPos.uq h g) e1 e2) z, fun _ => ?_⟩
    refine t_L_alike_291 hG _ _ _ ?_
    rw [nI_1]
    exact ih m2 I
end LA
