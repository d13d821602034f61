/-! Survey: paths, cuts, reach -/
/-- x is the vertex behind 'at' on the path to g -/
def Nxt (E : Nat → Nat → Nat) (D : Nat → Nat → Nat) (a g x : Nat) : Prop := 0 < E a x ∧ D a g = E a x + D x g
/-- x is the vertex of index k on the path from u to v -/
def PA (E : Nat → Nat → Nat) (D : Nat → Nat → Nat) (u v : Nat) : Nat → Nat → Prop
  | 0, x => x = u
  | k + 1, x => ∃ y, PA E D u v k y ∧ y ≠ v ∧ Nxt E D y v x
/-- the load of an edge -/
noncomputable def LoadA (n : Nat) (w : Nat → Nat) (c : Nat → Nat → Prop) (D : Nat → Nat → Nat) (a b : Nat) : Nat := smO (fun u => c u a ∧ D u a < D u b) w n
noncomputable def LoadB (n : Nat) (w : Nat → Nat) (c : Nat → Nat → Prop) (D : Nat → Nat → Nat) (a b : Nat) : Nat := smO (fun u => c u a ∧ ¬ D u a < D u b) w n
noncomputable def Load (n : Nat) (w : Nat → Nat) (c : Nat → Nat → Prop) (D : Nat → Nat → Nat) (a b : Nat) : Nat := max (LoadA n w c D a b) (LoadB n w c D a b)
def chn (t h : Nat) : Nat := 10 ^ (11 - h) * t ^ h
noncomputable def Rea (n : Nat) (w : Nat → Nat) (c : Nat → Nat → Prop) (H : Nat → Nat → Nat) (t v : Nat) : Nat := smO (fun u => c u v) (fun u => w u * chn t (H u v)) n
section CS
variable {l : Launch} {G : Gx} {s n : Nat} {mem : Mem} {w : Nat → Nat} {E : Nat → Nat → Nat} {c : Nat → Nat → Prop} {D H : Nat → Nat → Nat}
theorem Nxt.uq (F : Fst n w E c D H) {a g x y : Nat} (q : c a g) (h : Nxt E D a g x) (h2 : Nxt E D a g y) : x = y := F.tD.a6 q h.1 h2.1 h.2 h2.2
theorem Nxt.cn (F : Fst n w E c D H) {a g x : Nat} (q : c a g) (h : Nxt E D a g x) : c x g := F.tD.tr (F.tD.sy (F.tD.ed h.1)) q
theorem Nxt.hp (F : Fst n w E c D H) {a g x : Nat} (q : c a g) (h : Nxt E D a g x) : H a g = 1 + H x g := by
  have h1 := (F.tD.near' F.tH (un_pos (E := E)) q h.1).mp h.2
  rw [un_1 h.1] at h1
  exact h1
theorem c_stepToward (hs : Sv G s) (hv : SvAt mem s n c D) (hf : FoAt mem (s - 15) n w E) (F : Fst n w E c D H) {a g : Nat} (q : c a g) (hne : a ≠ g) : CtI l M_X5_stepToward G [.ref (gA G s), .int (nI a), .int (nI g)] mem (fun r m => m = mem ∧ ∃ x, r = nI x ∧ Nxt E D a g x) := by
  have hn := F.le
  have ha := F.tD.v1 q
  have hg := F.tD.v2 q
  obtain ⟨z, h1, h2⟩ := F.tD.a5 q hne
  have hz := F.tD.v2 (F.tD.ed h1)
  refine CtI_of (by decide) (Nat.le_of_ble_eq_true rfl) rfl (t_X5_stepToward_0 hs _ _ mem ?_)
  refine up_loop (P := fun k => XI l M_X5_stepToward G _ mem 2 [(0, .ref (gA G s)), (1, .int (nI a)), (2, .int (nI g)), (3, .int (nI k))] []) (n := z) (Nat.zero_le _) ?_ ?_
  · refine t_X5_stepToward_2 hs _ _ _ mem ?_
    rw [hv.1]
    refine ⟨fun q => absurd ((i_nle (by omega) (by omega)).mp q) (by omega), fun _ => ⟨_, c_hasEdge (Sv_Fo hs) hf hn ha hz (by have := F.2.2.1 a z; omega), ?_⟩⟩
    rintro r m ⟨rfl, rfl⟩
    rw [if_pos h1]
    refine ⟨fun q => absurd q (by decide), fun _ => ⟨_, c_between hs hv F (by omega) (by omega), ?_⟩⟩
    rintro r m ⟨rfl, rfl⟩
    refine ⟨_, c_between hs hv F (by omega) (by omega), ?_⟩
    rintro r m ⟨rfl, rfl⟩
    have q2 := F.tD.tr (F.tD.sy (F.tD.ed h1)) q
    have b1 := F.dlt q
    have b2 := F.dlt q2
    rw [ifc_t q, ifc_t q2, i_nle (by omega) (by omega)]
    exact ⟨fun z => by omega, fun _ => ⟨rfl, z, rfl, h1, h2⟩⟩
  · intro k _ hk ih
    refine t_X5_stepToward_2 hs _ _ _ mem ?_
    rw [hv.1]
    refine ⟨fun q => absurd ((i_nle (by omega) (by omega)).mp q) (by omega), fun _ => ⟨_, c_hasEdge (Sv_Fo hs) hf hn ha (by omega) (by have := F.2.2.1 a k; omega), ?_⟩⟩
    rintro r m ⟨rfl, rfl⟩
    rw [nI_1]
    by_cases e : 0 < E a k
    · rw [if_pos e]
      refine ⟨fun q => absurd q (by decide), fun _ => ⟨_, c_between hs hv F (by omega) (by omega), ?_⟩⟩
      rintro r m ⟨rfl, rfl⟩
      refine ⟨_, c_between hs hv F (by omega) (by omega), ?_⟩
      rintro r m ⟨rfl, rfl⟩
      have q2 := F.tD.tr (F.tD.sy (F.tD.ed e)) q
      have b1 := F.dlt q
      have b2 := F.dlt q2
      rw [ifc_t q, ifc_t q2, i_nle (by omega) (by omega)]
      refine ⟨fun _ => ih, fun t => ?_⟩
      have := F.tD.a4' e q
      have e2 : k = z := F.tD.a6 q e h1 (by omega) h2
      omega
    · rw [if_neg e]
      exact ⟨fun _ => ih, fun q => absurd rfl q⟩
theorem PA.on (F : Fst n w E c D H) {u v : Nat} (q : c u v) : ∀ {k x : Nat}, PA E D u v k x → c x v ∧ H x v + k = H u v
  | 0, x, h => by
    have h : x = u := h
    subst h
    exact ⟨q, rfl⟩
  | k + 1, x, h => by
    obtain ⟨y, h1, h2, h3⟩ := h
    obtain ⟨g1, g2⟩ := PA.on F q h1
    have := h3.hp F g1
    exact ⟨h3.cn F g1, by omega⟩
theorem PA.uq (F : Fst n w E c D H) {u v : Nat} (q : c u v) : ∀ {k x y : Nat}, PA E D u v k x → PA E D u v k y → x = y
  | 0, x, y, h, h2 => by
    have h : x = u := h
    have h2 : y = u := h2
    rw [h, h2]
  | k + 1, x, y, h, h2 => by
    obtain ⟨a, h1, h3, h4⟩ := h
    obtain ⟨b, g1, g3, g4⟩ := h2
    have e := PA.uq F q h1 g1
    subst e
    exact Nxt.uq F (PA.on F q h1).1 h4 g4
/-- the answer of pathVertex for an index that isn't negative -/
def PathAns (E : Nat → Nat → Nat) (c : Nat → Nat → Prop) (D H : Nat → Nat → Nat) (u v : Nat) (i : Int) (r : Int32) : Prop := (¬ c u v ∧ r = -9) ∨ (c u v ∧ ((H u v : Int) < i ∧ r = -9 ∨ ∃ k x : Nat, i = (k : Int) ∧ k ≤ H u v ∧ r = nI x ∧ PA E D u v k x))
theorem PathAns.uq (F : Fst n w E c D H) {u v : Nat} {i : Int} {r r' : Int32} (h : PathAns E c D H u v i r) (h2 : PathAns E c D H u v i r') : r = r' := by
  rcases h with ⟨a1, a2⟩ | ⟨a1, ⟨a2, a3⟩ | ⟨k, x, a2, a3, a4, a5⟩⟩ <;> rcases h2 with ⟨b1, b2⟩ | ⟨b1, ⟨b2, b3⟩ | ⟨k2, x2, b2, b3, b4, b5⟩⟩
  · rw [a2, b2]
  · exact absurd b1 a1
  · exact absurd b1 a1
  · exact absurd a1 b1
  · rw [a3, b3]
  · omega
  · exact absurd a1 b1
  · omega
  · have e : k = k2 := by omega
    subst e
    rw [a4, b4, PA.uq F a1 a5 b5]
theorem c_vertexOnPath (hs : Sv G s) (hv : SvAt mem s n c D) (hf : FoAt mem (s - 15) n w E) (F : Fst n w E c D H) {u v : Nat} (hu : u < n) (hv2 : v < n) {i : Int32} (hi : 0 ≤ i.toInt) : CtI l M_X5_vertexOnPath G [.ref (gA G s), .int (nI u), .int (nI v), .int i] mem (fun r m => m = mem ∧ PathAns E c D H u v i.toInt r) := by
  have hn := F.le
  refine CtI_of (by decide) (Nat.le_of_ble_eq_true rfl) rfl (t_X5_vertexOnPath_0 hs _ _ _ mem ⟨_, c_joined hs hv F (by omega) (by omega), ?_⟩)
  rintro r m ⟨rfl, rfl⟩
  refine jn (fun q => ⟨rfl, Or.inl ⟨q, rfl⟩⟩) (fun q => ?_)
  have hh := F.hle q
  refine ⟨fun q2 => ?_, fun q2 => ⟨rfl, Or.inr ⟨q, Or.inl ⟨by rw [i_lt, i_12] at q2; omega, rfl⟩⟩⟩⟩
  rw [i_lt, i_12] at q2
  obtain ⟨j, hj, rfl⟩ := i_arg (n := 12) hi (by omega)
  rw [i_nI (by omega)]
  refine up_loop (P := fun k => ∀ x, PA E D u v k x → XI l M_X5_vertexOnPath G _ m 24 [(0, .ref (gA G s)), (2, .int (nI v)), (3, .int (nI j)), (4, .int (nI x)), (5, .int (nI k))] []) (n := j) (Nat.zero_le _) ?_ ?_ u rfl
  · intro x hx
    obtain ⟨g1, g2⟩ := PA.on F q hx
    exact t_X5_vertexOnPath_24 hs _ _ _ _ m ⟨fun _ => ⟨rfl, Or.inr ⟨q, Or.inr ⟨j, x, rfl, by omega, rfl, hx⟩⟩⟩, fun z => absurd ((i_nle (by omega) (by omega)).mpr (Nat.le_refl _)) z⟩
  · intro k _ hk ih x hx
    obtain ⟨g1, g2⟩ := PA.on F q hx
    have hx2 := F.tD.v1 g1
    refine t_X5_vertexOnPath_24 hs _ _ _ _ m ⟨fun z => absurd ((i_nle (by omega) (by omega)).mp z) (by omega), fun _ => ⟨fun z => ?_, fun z => ⟨rfl, Or.inr ⟨q, Or.inl ⟨?_, rfl⟩⟩⟩⟩⟩
    · have e : x ≠ v := fun e => z (by rw [e])
      refine ⟨_, c_stepToward hs hv hf F g1 e, ?_⟩
      rintro r m ⟨rfl, y, rfl, hy⟩
      rw [nI_1]
      exact ih y ⟨x, hx, e, hy⟩
    · have e := (i_neq (by omega) (by omega)).mp z
      subst e
      have := F.tH.d0 hx2
      omega
theorem c_onPath (hs : Sv G s) (hv : SvAt mem s n c D) (F : Fst n w E c D H) {x u v : Nat} (hx : x < n) (hu : u < n) (hv2 : v < n) (q : c u v) : CtI l M_X5_onPath G [.ref (gA G s), .int (nI x), .int (nI u), .int (nI v)] mem (fun r m => m = mem ∧ r = ifc (c u x ∧ D u x + D x v = D u v) 1 0) := by
  have hn := F.le
  refine CtI_of (by decide) (Nat.le_of_ble_eq_true rfl) rfl (t_X5_onPath_0 hs _ _ _ mem ⟨_, c_between hs hv F (by omega) (by omega), ?_⟩)
  rintro r m ⟨rfl, rfl⟩
  refine ⟨_, c_between hs hv F (by omega) (by omega), ?_⟩
  rintro r m ⟨rfl, rfl⟩
  refine ⟨_, c_between hs hv F (by omega) (by omega), ?_⟩
  rintro r m ⟨rfl, rfl⟩
  have b1 := F.dlt q
  rw [ifc_t q]
  by_cases g : c u x
  · have g2 := F.tD.tr (F.tD.sy g) q
    have b2 := F.dlt g
    have b3 := F.dlt g2
    rw [ifc_t g, ifc_t g2, nI_add, i_neq (by omega) (by omega)]
    exact ⟨fun z => ⟨rfl, (ifc_f (fun t => z t.2)).symm⟩, fun z => ⟨rfl, (ifc_t ⟨g, z⟩).symm⟩⟩
  · have g2 : ¬ c x v := fun z => g (F.tD.tr q (F.tD.sy z))
    rw [ifc_f g, ifc_f g2, show (1000000 : Int32) + 1000000 = nI 2000000 from rfl, i_neq (by omega) (by omega)]
    exact ⟨fun z => ⟨rfl, (ifc_f (fun t => g t.1)).symm⟩, fun z => by omega⟩
/-- the meeting vertex: the first on the three paths -/
def Meet (c : Nat → Nat → Prop) (D : Nat → Nat → Nat) (u v w x : Nat) : Prop := c u x ∧ D u x + D x v = D u v ∧ D u x + D x w = D u w ∧ D v x + D x w = D v w
theorem c_meetingOf (hs : Sv G s) (hv : SvAt mem s n c D) (F : Fst n w E c D H) {u v t : Nat} (hu : u < n) (hv2 : v < n) (ht : t < n) : CtI l M_X5_meetingOf G [.ref (gA G s), .int (nI u), .int (nI v), .int (nI t)] mem (fun r m => m = mem ∧ ((¬ (c u v ∧ c u t) ∧ r = -9) ∨ ((c u v ∧ c u t) ∧ ∃ x, r = nI x ∧ Meet c D u v t x ∧ ∀ y, y < x → ¬ Meet c D u v t y))) := by
  have hn := F.le
  refine CtI_of (by decide) (Nat.le_of_ble_eq_true rfl) rfl (t_X5_meetingOf_0 hs _ _ _ mem ⟨_, c_joined hs hv F (by omega) (by omega), ?_⟩)
  rintro r m ⟨rfl, rfl⟩
  refine jn (fun q => ⟨rfl, Or.inl ⟨fun z => q z.1, rfl⟩⟩) (fun q => ⟨_, c_joined hs hv F (by omega) (by omega), ?_⟩)
  rintro r m ⟨rfl, rfl⟩
  refine jn' (fun q2 => ⟨rfl, Or.inl ⟨fun z => q2 z.2, rfl⟩⟩) (fun q2 => ?_)
  have q3 := F.tD.tr (F.tD.sy q) q2
  obtain ⟨z, z1, z2, z3, z4⟩ := F.tD.med _ (Nat.le_refl _) q q2
  have hz := F.tD.v2 z1
  refine up_loop (P := fun k => (∀ y, y < k → ¬ Meet c D u v t y) → XI l M_X5_meetingOf G _ m 24 [(0, .ref (gA G s)), (1, .int (nI u)), (2, .int (nI v)), (3, .int (nI t)), (4, .int (nI k))] []) (n := z) (Nat.zero_le _) ?_ ?_ (fun y hy => absurd hy (Nat.not_lt_zero _))
  · intro hy
    refine t_X5_meetingOf_24 hs _ _ _ _ m ?_
    rw [hv.1]
    refine ⟨fun b => absurd ((i_nle (by omega) (by omega)).mp b) (by omega), fun _ => ⟨_, c_onPath hs hv F hz hu hv2 q, ?_⟩⟩
    rintro r m ⟨rfl, rfl⟩
    refine jn (fun b => absurd ⟨z1, z2⟩ b) (fun _ => ⟨_, c_onPath hs hv F hz hv2 ht q3, ?_⟩)
    rintro r m ⟨rfl, rfl⟩
    refine jn (fun b => absurd ⟨F.tD.tr (F.tD.sy q) z1, z4⟩ b) (fun _ => ⟨_, c_onPath hs hv F hz hu ht q2, ?_⟩)
    rintro r m ⟨rfl, rfl⟩
    exact jn (fun b => absurd ⟨z1, z3⟩ b) (fun _ => ⟨rfl, Or.inr ⟨⟨q, q2⟩, z, rfl, ⟨z1, z2, z3, z4⟩, hy⟩⟩)
  · intro k _ hk ih hy
    refine t_X5_meetingOf_24 hs _ _ _ _ m ?_
    rw [hv.1]
    have go : ¬ Meet c D u v t k → XI l M_X5_meetingOf G _ m 24 [(0, .ref (gA G s)), (1, .int (nI u)), (2, .int (nI v)), (3, .int (nI t)), (4, .int (nI (k + 1)))] [] := fun b => ih (fun y hy2 => by
      by_cases e : y = k
      · subst e; exact b
      · exact hy y (by omega))
    rw [nI_1]
    refine ⟨fun b => absurd ((i_nle (by omega) (by omega)).mp b) (by omega), fun _ => ⟨_, c_onPath hs hv F (by omega) hu hv2 q, ?_⟩⟩
    rintro r m ⟨rfl, rfl⟩
    refine jn (fun b => go (fun p => b ⟨p.1, p.2.1⟩)) (fun b1 => ⟨_, c_onPath hs hv F (by omega) hv2 ht q3, ?_⟩)
    rintro r m ⟨rfl, rfl⟩
    refine jn (fun b => go (fun p => b ⟨F.tD.tr (F.tD.sy q) p.1, p.2.2.2⟩)) (fun b2 => ⟨_, c_onPath hs hv F (by omega) hu ht q2, ?_⟩)
    rintro r m ⟨rfl, rfl⟩
    exact jn (fun b => go (fun p => b ⟨p.1, p.2.2.1⟩)) (fun b3 => ⟨rfl, Or.inr ⟨⟨q, q2⟩, k, rfl, ⟨b1.1, b1.2, b3.2, b2.2⟩, hy⟩⟩)
theorem c_edgeOf (hs : Sv G s) (hf : FoAt mem (s - 15) n w E) (F : Fst n w E c D H) {u v : Nat} (hu : u < n) (hv2 : v < n) : CtI l M_X5_edgeOf G [.ref (gA G s), .int (nI u), .int (nI v)] mem (fun r m => m = mem ∧ r = nI (E u v)) := by
  refine CtI_of (by decide) (Nat.le_of_ble_eq_true rfl) rfl (t_X5_edgeOf_0 hs _ _ mem ⟨_, c_edgeBetween (Sv_Fo hs) hf F.le hu hv2, ?_⟩)
  rintro r m ⟨rfl, rfl⟩
  exact ⟨rfl, rfl⟩
/-- whether the path between x and y goes over the edge between a and b -/
def Over (c : Nat → Nat → Prop) (D : Nat → Nat → Nat) (a b x y : Nat) : Prop := c x a ∧ ¬ (D x a < D x b ↔ D y a < D y b)
theorem c_goesOver (hs : Sv G s) (hv : SvAt mem s n c D) (hf : FoAt mem (s - 15) n w E) (F : Fst n w E c D H) {x y a b : Nat} (q : c x y) (e : 0 < E a b) : CtI l M_X5_goesOver G [.ref (gA G s), .int (nI x), .int (nI y), .int (nI a), .int (nI b)] mem (fun r m => m = mem ∧ r = ifc (Over c D a b x y) 1 0) := by
  have hn := F.le
  have hx := F.tD.v1 q
  have hy := F.tD.v2 q
  have ca := F.tD.ed e
  have ha := F.tD.v1 ca
  have hb := F.tD.v2 ca
  refine CtI_of (by decide) (Nat.le_of_ble_eq_true rfl) rfl (t_X5_goesOver_0 hs _ _ _ _ mem ⟨_, c_edgeBetween (Sv_Fo hs) hf hn ha hb, ?_⟩)
  rintro r m ⟨rfl, rfl⟩
  refine ⟨_, c_between hs hv F (by omega) (by omega), ?_⟩
  rintro r m ⟨rfl, rfl⟩
  refine ⟨_, c_between hs hv F (by omega) (by omega), ?_⟩
  rintro r m ⟨rfl, rfl⟩
  refine ⟨_, c_between hs hv F (by omega) (by omega), ?_⟩
  rintro r m ⟨rfl, rfl⟩
  refine ⟨_, c_between hs hv F (by omega) (by omega), ?_⟩
  rintro r m ⟨rfl, rfl⟩
  refine ⟨_, c_between hs hv F (by omega) (by omega), ?_⟩
  rintro r m ⟨rfl, rfl⟩
  have be := F.2.2.1 a b
  have bq := F.dlt q
  rw [ifc_t q]
  by_cases g : c x a
  · have g2 := F.tD.tr g ca
    have g3 := F.tD.tr (F.tD.sy q) g
    have g4 := F.tD.tr g3 ca
    have b1 := F.dlt g
    have b2 := F.dlt g2
    have b3 := F.dlt (F.tD.sy g3)
    have b4 := F.dlt (F.tD.sy g4)
    rw [ifc_t g, ifc_t g2, ifc_t (F.tD.sy g3), ifc_t (F.tD.sy g4), nI_add, nI_add, nI_add, nI_add, i_min (by omega) (by omega), i_neq (by omega) (by omega)]
    have s1 := F.tD.a4 e g
    have s2 := F.tD.a4 e g3
    have s3 := F.tD.ds g3
    have s4 := F.tD.ds g4
    have t1 := F.tD.tri' g (F.tD.sy g3)
    have t2 := F.tD.tri' g2 (F.tD.sy g4)
    have ac1 : D x a < D x b → ¬ D y a < D y b → D x y = D x a + E a b + D b y := fun p p2 => F.tD.across e g g3 p p2
    have ac2 : ¬ D x a < D x b → D y a < D y b → D x y = D x b + E a b + D a y := fun p p2 => by
      have := F.tD.across e g3 g p2 p
      have := F.tD.ds q
      have := F.tD.ds g2
      omega
    refine ⟨fun z => ⟨rfl, (ifc_f (fun o => z ?_)).symm⟩, fun z => ⟨rfl, (ifc_t ⟨g, fun o => ?_⟩).symm⟩⟩
    · by_cases p1 : D x a < D x b <;> by_cases p2 : D y a < D y b
      · exact absurd (iff_of_true p1 p2) o.2
      · have := ac1 p1 p2; omega
      · have := ac2 p1 p2; omega
      · exact absurd (iff_of_false p1 p2) o.2
    · omega
  · have g2 : ¬ c x b := fun z => g (F.tD.tr z (F.tD.sy ca))
    have g3 : ¬ c a y := fun z => g (F.tD.tr q (F.tD.sy z))
    have g4 : ¬ c b y := fun z => g2 (F.tD.tr q (F.tD.sy z))
    rw [ifc_f g, ifc_f g2, ifc_f g3, ifc_f g4, show (1000000 : Int32) = nI 1000000 from rfl, nI_add, nI_add, i_min (by omega) (by omega), i_neq (by omega) (by omega)]
    exact ⟨fun z => ⟨rfl, (ifc_f (fun o => g o.1)).symm⟩, fun z => by omega⟩
theorem c_heavierPart (hs : Sv G s) (hv : SvAt mem s n c D) (hf : FoAt mem (s - 15) n w E) (F : Fst n w E c D H) {a b : Nat} (e : 0 < E a b) : CtI l M_X5_heavierPart G [.ref (gA G s), .int (nI a), .int (nI b)] mem (fun r m => m = mem ∧ r = nI (Load n w c D a b)) := by
  have hn := F.le
  have ca := F.tD.ed e
  have ha := F.tD.v1 ca
  have hb := F.tD.v2 ca
  have bd : ∀ (p : Nat → Prop) (k : Nat), k ≤ n → smO p w k ≤ 1188 := fun p k hk => by
    have h1 := smO_le (p := p) (f := w) (B := 99) (k := k) (fun x hx _ => F.2.1 x (by omega))
    omega
  refine CtI_of (by decide) (Nat.le_of_ble_eq_true rfl) rfl (t_X5_heavierPart_0 hs _ _ mem ?_)
  refine up_loop (P := fun k => XI l M_X5_heavierPart G _ mem 8 [(0, .ref (gA G s)), (1, .int (nI a)), (2, .int (nI b)), (3, .int (nI (smO (fun u => c u a ∧ D u a < D u b) w k))), (4, .int (nI (smO (fun u => c u a ∧ ¬ D u a < D u b) w k))), (5, .int (nI k))] []) (n := n) (Nat.zero_le _) ?_ ?_
  · refine t_X5_heavierPart_8 hs _ _ _ _ _ mem ?_
    rw [hv.1]
    refine ⟨fun _ => ⟨rfl, ?_⟩, fun z => absurd ((i_nle (by omega) (by omega)).mpr (Nat.le_refl _)) z⟩
    have b1 := bd (fun u => c u a ∧ D u a < D u b) n (Nat.le_refl _)
    have b2 := bd (fun u => c u a ∧ ¬ D u a < D u b) n (Nat.le_refl _)
    unfold Load LoadA LoadB
    by_cases z : smO (fun u => c u a ∧ D u a < D u b) w n < smO (fun u => c u a ∧ ¬ D u a < D u b) w n
    · rw [if_pos ((i_nlt (by omega) (by omega)).mpr z), Nat.max_eq_right (by omega)]
    · rw [if_neg (fun t => z ((i_nlt (by omega) (by omega)).mp t)), Nat.max_eq_left (by omega)]
  · intro k _ hk ih
    refine t_X5_heavierPart_8 hs _ _ _ _ _ mem ?_
    rw [hv.1]
    refine ⟨fun z => absurd ((i_nle (by omega) (by omega)).mp z) (by omega), fun _ => ⟨_, c_joined hs hv F (by omega) (by omega), ?_⟩⟩
    rintro r m ⟨rfl, rfl⟩
    rw [nI_1]
    unfold smO at ih
    refine jn (fun q => ⟨_, c_joined hs hv F (by omega) (by omega), ?_⟩) (fun q => ⟨_, c_between hs hv F (by omega) (by omega), ?_⟩)
    · rintro r m ⟨rfl, rfl⟩
      rw [ifc_f (fun z => q z.1), ifc_f (fun z => q z.1)] at ih
      exact jn (fun _ => ih) (fun z => absurd z q)
    · rintro r m ⟨rfl, rfl⟩
      refine ⟨_, c_between hs hv F (by omega) (by omega), ?_⟩
      rintro r m ⟨rfl, rfl⟩
      have q2 := F.tD.tr q ca
      have b1 := F.dlt q
      have b2 := F.dlt q2
      rw [ifc_t q, ifc_t q2, i_nle (by omega) (by omega)]
      refine ⟨fun z => ⟨_, c_joined hs hv F (by omega) (by omega), ?_⟩, fun z => ⟨_, c_weightOf (Sv_Fo hs) hf hn hk, ?_⟩⟩
      · rintro r m ⟨rfl, rfl⟩
        refine jn (fun z2 => absurd q z2) (fun _ => ⟨_, c_weightOf (Sv_Fo hs) hf hn hk, ?_⟩)
        rintro r m ⟨rfl, rfl⟩
        rw [ifc_f (fun z2 => absurd z2.2 (by omega)), ifc_t ⟨q, by omega⟩] at ih
        rw [nI_add]
        exact ih
      · rintro r m ⟨rfl, rfl⟩
        rw [ifc_t ⟨q, by omega⟩, ifc_f (fun z2 => absurd z2.2 (by omega))] at ih
        rw [nI_add]
        exact ih
end CS
