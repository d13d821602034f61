/-! the model's rows, and its distances -/
theorem smO_lt {p q : Nat → Prop} {f : Nat → Nat} : ∀ {k x : Nat}, (∀ y, y < k → q y → p y) → x < k → p x → ¬ q x → 0 < f x → smO q f k < smO p f k
  | 0, x, _, h, _, _, _ => absurd h (Nat.not_lt_zero x)
  | k + 1, x, h, hx, hp, hq, hf => by
    unfold smO
    have le : ∀ j, j ≤ k + 1 → smO q f j ≤ smO p f j := by
      intro j
      induction j with
      | zero => intro _; exact Nat.le_refl _
      | succ j ih =>
        intro hj
        have := ih (by omega)
        unfold smO
        by_cases c : q j
        · rw [ifc_t c, ifc_t (h j (by omega) c)]; omega
        · rw [ifc_f c]; omega
    by_cases e : x = k
    · subst e
      have := le x (by omega)
      rw [ifc_t hp, ifc_f hq]; omega
    · have ih := smO_lt (k := k) (x := x) (p := p) (q := q) (f := f) (fun y hy => h y (by omega)) (by omega) hp hq hf
      by_cases c : q k
      · rw [ifc_t c, ifc_t (h k (by omega) c)]; omega
      · rw [ifc_f c]; omega
theorem lg_lt (x y : Int64) : lg_cmp x y < 0 ↔ x.toInt < y.toInt := by
  unfold lg_cmp
  by_cases h : x > y
  · rw [if_pos h]
    have h' : y < x := h
    rw [Int64.lt_iff_toInt_lt] at h'
    exact ⟨fun z => absurd z (by decide), fun z => by omega⟩
  · rw [if_neg h]
    have h' : ¬ y < x := h
    rw [Int64.lt_iff_toInt_lt] at h'
    by_cases e : x = y
    · subst e; rw [if_pos rfl]; exact ⟨fun z => absurd z (by decide), fun z => by omega⟩
    · rw [if_neg e]
      refine ⟨fun _ => ?_, fun _ => by decide⟩
      have : x.toInt ≠ y.toInt := fun z => e (Int64.toInt_inj.mp z)
      omega
theorem lg_gt (x y : Int64) : 0 < lg_cmp x y ↔ y.toInt < x.toInt := by
  unfold lg_cmp
  by_cases h : x > y
  · rw [if_pos h]
    have h' : y < x := h
    rw [Int64.lt_iff_toInt_lt] at h'
    exact ⟨fun _ => h', fun _ => by decide⟩
  · rw [if_neg h]
    have h' : ¬ y < x := h
    rw [Int64.lt_iff_toInt_lt] at h'
    refine ⟨fun z => ?_, fun z => absurd z h'⟩
    by_cases e : x = y
    · rw [if_pos e] at z; exact absurd z (by decide)
    · rw [if_neg e] at z; exact absurd z (by decide)
theorem i_64 (x : Int32) : x.toInt64.toInt = x.toInt := Int32.toInt_toInt64 x
section CM
variable {l : Launch} {G : Gx} {mem : Mem} {n : Nat} {w : Nat → Nat} {E : Nat → Nat → Nat} {c : Nat → Nat → Prop} {D H : Nat → Nat → Nat}
theorem c_in (a b d : Int64) : CtI l M_X7_in G [.long a, .long b, .long d] mem (fun r m => m = mem ∧ r = if b.toInt ≤ a.toInt ∧ a.toInt ≤ d.toInt then 1 else 0) := by
  refine CtI_of (by decide) (Nat.le_of_ble_eq_true rfl) rfl (t_X7_in_0 _ _ _ mem ?_)
  rw [lg_lt, lg_gt]
  exact ⟨fun h => ⟨rfl, by rw [if_neg (by omega)]⟩, fun h => ⟨fun h2 => ⟨rfl, by rw [if_neg (by omega)]⟩, fun h2 => ⟨rfl, by rw [if_pos (by omega)]⟩⟩⟩
/-- 'in' of an int between written numbers -/
theorem c_in' (a : Int32) (b d : Int64) {b' d' : Int} (hb : b.toInt = b') (hd : d.toInt = d') : CtI l M_X7_in G [.long a.toInt64, .long b, .long d] mem (fun r m => m = mem ∧ r = if b' ≤ a.toInt ∧ a.toInt ≤ d' then 1 else 0) :=
  (c_in _ _ _).mono (fun r m q => ⟨q.1, by rw [q.2, i_64, hb, hd]⟩)
theorem c_isVertex (hG : Mn G) (hn : mem 327 3 = nI n) (h1 : 1 ≤ n) (h2 : n ≤ 12) (v : Int32) : CtI l M_X7_isVertex G [.ref (gA G 327), .int v] mem (fun r m => m = mem ∧ r = if 0 ≤ v.toInt ∧ v.toInt < n then 1 else 0) := by
  refine CtI_of (by decide) (Nat.le_of_ble_eq_true rfl) rfl (t_X7_isVertex_0 hG v mem ⟨_, c_in' v 0 _ (b' := 0) rfl (i_64 _), ?_⟩)
  rintro r m ⟨rfl, rfl⟩
  have e : (m 327 3 - 1).toInt = (n : Int) - 1 := by rw [hn, i_sub (by rw [i_nI (by omega), i_1]; omega) (by rw [i_nI (by omega), i_1]; omega), i_nI (by omega), i_1]
  rw [e]
  by_cases q : 0 ≤ v.toInt ∧ v.toInt < n
  · rw [if_pos q, if_pos (by omega)]; exact ⟨Or.inr rfl, rfl, rfl⟩
  · rw [if_neg q, if_neg (by omega)]; exact ⟨Or.inl rfl, rfl, rfl⟩
theorem c_isVertex' (hG : Mn G) (hn : mem 327 3 = nI n) (h2 : n ≤ 12) {v : Nat} (hv : v < n) : CtI l M_X7_isVertex G [.ref (gA G 327), .int (nI v)] mem (fun r m => m = mem ∧ r = 1) :=
  (c_isVertex hG hn (by omega) h2 _).mono (fun r m q => ⟨q.1, by rw [q.2, if_pos (vtx hv h2)]⟩)
theorem c_at {u v : Nat} : CtI l M_X7_at G [.int (nI u), .int (nI v)] mem (fun r m => m = mem ∧ r = nI (12 + 12 * u + v)) :=
  CtI_of (by decide) (Nat.le_of_ble_eq_true rfl) rfl (t_X7_at_0 _ _ mem ⟨rfl, by rw [show (12 : Int32) = nI 12 from rfl, pk_mul, nI_add, nI_add]⟩)
/-- a row of the model holds the weights w, the edges E -/
def RoAt (mem : Mem) (r : Nat) (w : Nat → Nat) (E : Nat → Nat → Nat) : Prop := (∀ v, v < 12 → mem r v = nI (w v)) ∧ ∀ u v, u < 12 → v < 12 → mem r (12 + 12 * u + v) = nI (E u v)
theorem RoAt.eq {m m' : Mem} {r r' : Nat} (h : RoAt m r w E) (q : ∀ k, k < 156 → m' r' k = m r k) : RoAt m' r' w E := ⟨fun v hv => by rw [q v (by omega)]; exact h.1 v hv, fun u v hu hv => by rw [q _ (by omega)]; exact h.2 u v hu hv⟩
theorem RoAt.eq' {m m' : Mem} {r : Nat} (h : RoAt m r w E) (q : m' r = m r) : RoAt m' r w E := h.eq (fun k _ => by rw [q])
theorem c_copy {r r2 : Nat} (hr : Ra G r) (hr2 : Ra G r2) (hne : r ≠ r2) : CtV l M_X7_copy G [.ref (gA G r), .ref (gA G r2)] mem (fun m => (∀ a, a ≠ r2 → m a = mem a) ∧ ∀ k, k < 156 → m r2 k = mem r k) := by
  refine CtV_of (by decide) (Nat.le_of_ble_eq_true rfl) rfl (t_X7_copy_0 hr hr2 mem ?_)
  refine up_loop (P := fun k => ∀ m : Mem, (∀ a, a ≠ r2 → m a = mem a) → (∀ i, i < k → m r2 i = mem r i) → XV l M_X7_copy G _ m 2 [(0, .ref (gA G r)), (1, .ref (gA G r2)), (2, .int (nI k))] []) (n := 156) (Nat.zero_le _) ?_ ?_ mem (fun _ _ => rfl) (fun i hi => absurd hi (Nat.not_lt_zero i))
  · intro m h1 h2
    exact t_X7_copy_2 hr hr2 _ m ⟨fun _ => ⟨h1, h2⟩, fun z => absurd (by decide) z⟩
  · intro k _ hk ih m h1 h2
    refine t_X7_copy_2 hr hr2 _ m ⟨fun z => absurd ((i_nle (a := 156) (by decide) (by omega)).mp z) (by omega), fun _ => ⟨i_in hk (by decide), i_in hk (by decide), ?_⟩⟩
    rw [nI_1, i_cl (by omega)]
    refine ih _ (fun a ha => by rw [wr_n ha]; exact h1 a ha) (fun i hi => ?_)
    rw [wr_at]
    by_cases e : i = k
    · subst e; rw [if_pos ⟨rfl, rfl⟩, h1 r hne]
    · rw [if_neg (by omega)]; exact h2 i (by omega)
theorem c_join {r : Nat} (hr : Ra G r) (h : RoAt mem r w E) {u v x : Nat} (hu : u < 12) (hv : v < 12) : CtV l M_X7_join G [.ref (gA G r), .int (nI u), .int (nI v), .int (nI x)] mem (fun m => (∀ a, a ≠ r → m a = mem a) ∧ RoAt m r w (updE E u v x)) := by
  refine CtV_of (by decide) (Nat.le_of_ble_eq_true rfl) rfl (t_X7_join_0 hr _ _ _ mem ⟨_, c_at, ?_⟩)
  rintro i m ⟨rfl, rfl⟩
  refine ⟨i_in (by omega) (by decide), _, c_at, ?_⟩
  rintro i m2 ⟨rfl, rfl⟩
  refine ⟨i_in (by omega) (by decide), ?_⟩
  rw [i_cl (by omega), i_cl (by omega)]
  refine ⟨fun a ha => by rw [wr_n ha, wr_n ha], fun q hq => ?_, fun a b ha hb => ?_⟩
  · rw [wr_at, if_neg (by omega), wr_at, if_neg (by omega)]; exact h.1 q hq
  · rw [wr_at, wr_at]
    unfold updE
    by_cases e1 : a = v ∧ b = u
    · rw [if_pos (by omega), if_pos (by omega)]
    · rw [if_neg (by omega)]
      by_cases e2 : a = u ∧ b = v
      · rw [if_pos (by omega), if_pos (by omega)]
      · rw [if_neg (by omega), if_neg (by omega)]; exact h.2 a b ha hb
/-- the model's far and hops, laid from f -/
def FarAt (m : Mem) (c : Nat → Nat → Prop) (D H : Nat → Nat → Nat) (f : Nat) : Prop := ∀ v, v < 12 → (c f v → m 336 v = nI (D f v) ∧ m 337 v = nI (H f v)) ∧ (¬ c f v → m 336 v = -9 ∧ m 337 v = -9)
def LI (E : Nat → Nat → Nat) (c : Nat → Nat → Prop) (D H : Nat → Nat → Nat) (f : Nat) (m : Mem) : Prop := (∀ v, v < 12 → (m 336 v = -9 ∧ m 337 v = -9) ∨ (c f v ∧ m 336 v = nI (D f v) ∧ m 337 v = nI (H f v) ∧ (v = f ∨ ∃ p, p < 12 ∧ Nxt E D v f p ∧ m 336 p ≠ -9))) ∧ m 336 f ≠ -9
noncomputable def unv (m : Mem) : Nat := smO (fun v => m 336 v = -9) (fun _ => 1) 12
theorem i_n9 {k : Nat} (h : k < 2147483648) : nI k ≠ -9 := fun z => by rw [i_eq, i_nI h, i_m9] at z; omega
theorem c_layFar (hG : Mn G) {r f : Nat} (hr : Ra G r) (h : RoAt mem r w E) (F : Fst n w E c D H) (hf : f < n) : CtV l M_X7_layFar G [.ref (gA G 327), .ref (gA G r), .int (nI f)] mem (fun m => (∀ a, a ≠ 336 → a ≠ 337 → m a = mem a) ∧ FarAt m c D H f) := by
  have hn := F.le
  have hr9 : r ≠ 336 ∧ r ≠ 337 := by rcases hr.1 with rfl | rfl | rfl <;> decide
  refine CtV_of (by decide) (Nat.le_of_ble_eq_true rfl) rfl (t_X7_layFar_0 hG hr _ mem ?_)
  -- no pass more is wanted
  have fin : ∀ m : Mem, (∀ a, a ≠ 336 → a ≠ 337 → m a = mem a) → LI E c D H f m → (∀ u v, u < 12 → v < 12 → m 336 u ≠ -9 → 0 < E u v → m 336 v ≠ -9) → FarAt m c D H f := by
    intro m ho hL hc
    have vis : ∀ (k : Nat) (v : Nat), D v f ≤ k → c v f → m 336 v ≠ -9 := by
      intro k
      induction k with
      | zero =>
        intro v hk q
        rw [F.tD.d00 q (by omega)]; exact hL.2
      | succ k ih =>
        intro v hk q
        by_cases e : v = f
        · rw [e]; exact hL.2
        · obtain ⟨z, h1, h2⟩ := F.tD.a5 q e
          have q2 := F.tD.tr (F.tD.sy (F.tD.ed h1)) q
          have v1 := F.tD.v1 q
          have v2 := F.tD.v1 q2
          exact hc z v (by omega) (by omega) (ih z (by omega) q2) (by rw [F.tD.ws]; exact h1)
    intro v hv
    refine ⟨fun q => ?_, fun q => ?_⟩
    · rcases hL.1 v hv with ⟨g, -⟩ | ⟨-, g1, g2, -⟩
      · exact absurd g (vis _ v (Nat.le_refl _) (F.tD.sy q))
      · exact ⟨g1, g2⟩
    · rcases hL.1 v hv with g | ⟨g, -⟩
      · exact g
      · exact absurd g q
  have pass : ∀ (K : Nat) (m : Mem), (∀ a, a ≠ 336 → a ≠ 337 → m a = mem a) → LI E c D H f m → unv m ≤ K → XV l M_X7_layFar G (fun m => (∀ a, a ≠ 336 → a ≠ 337 → m a = mem a) ∧ FarAt m c D H f) m 50 [(0, .ref (gA G 327)), (1, .ref (gA G r)), (3, .int 1)] [] := by
    intro K
    induction K with
    | zero =>
      intro m ho hL hu
      -- all are visited: the pass finds nothing
      have all : ∀ v, v < 12 → m 336 v ≠ -9 := fun v hv q => by
        have := smO_lt (p := fun v => m 336 v = -9) (q := fun _ => False) (f := fun _ => 1) (k := 12) (x := v) (fun _ _ z => z.elim) hv q (fun z => z) (by decide)
        unfold unv at hu
        omega
      refine t_X7_layFar_50 hG hr _ m ⟨fun z => absurd z (by decide), fun _ => ?_⟩
      refine up_loop (P := fun u => XV l M_X7_layFar G _ m 59 [(0, .ref (gA G 327)), (1, .ref (gA G r)), (3, .int 0), (4, .int (nI u))] []) (n := 12) (Nat.zero_le _) ?_ ?_
      · exact t_X7_layFar_59 hG hr _ _ m ⟨fun _ => t_X7_layFar_50 hG hr _ m ⟨fun _ => ⟨ho, fin m ho hL (fun u v _ hv _ _ => all v hv)⟩, fun z => absurd rfl z⟩, fun z => absurd (by decide) z⟩
      · intro u _ hu ih
        refine t_X7_layFar_59 hG hr _ _ m ⟨fun z => absurd ((i_nle (a := 12) (by decide) (by omega)).mp z) (by omega), fun _ => ?_⟩
        refine up_loop (P := fun v => XV l M_X7_layFar G _ m 69 [(0, .ref (gA G 327)), (1, .ref (gA G r)), (3, .int 0), (4, .int (nI u)), (5, .int (nI v))] []) (n := 12) (Nat.zero_le _) ?_ ?_
        · refine t_X7_layFar_69 hG hr _ _ _ m ⟨fun _ => ?_, fun z => absurd (by decide) z⟩
          rw [nI_1]; exact ih
        · intro v _ hv ih2
          refine t_X7_layFar_69 hG hr _ _ _ m ⟨fun z => absurd ((i_nle (a := 12) (by decide) (by omega)).mp z) (by omega), fun _ => ⟨i_in hu (by decide), fun z => ?_, fun _ => ⟨_, c_at, ?_⟩⟩⟩
          · rw [i_cl (by omega)] at z; exact absurd z (all u hu)
          · rintro i m2 ⟨rfl, rfl⟩
            rw [nI_1]
            refine ⟨i_in (by omega) (by decide), fun _ => ih2, fun _ => ⟨i_in hv (by decide), fun _ => ih2, fun z => ?_⟩⟩
            rw [i_cl (by omega)] at z; exact absurd z (all v hv)
    | succ K IH =>
      intro m ho hL hun
      refine t_X7_layFar_50 hG hr _ m ⟨fun z => absurd z (by decide), fun _ => ?_⟩
      -- the pass, at (u, v): either something was found, or nothing below (u, v) is wanting
      let St : Nat → Nat → Mem → Int32 → Prop := fun u v m a => (∀ a, a ≠ 336 → a ≠ 337 → m a = mem a) ∧ LI E c D H f m ∧ ((a = 1 ∧ unv m ≤ K) ∨ (a = 0 ∧ unv m ≤ K + 1 ∧ ∀ u' v', u' < 12 → v' < 12 → (u' < u ∨ (u' = u ∧ v' < v)) → m 336 u' ≠ -9 → 0 < E u' v' → m 336 v' ≠ -9))
      have outer : ∀ (m : Mem) (a : Int32), St 0 0 m a → XV l M_X7_layFar G (fun m => (∀ a, a ≠ 336 → a ≠ 337 → m a = mem a) ∧ FarAt m c D H f) m 59 [(0, .ref (gA G 327)), (1, .ref (gA G r)), (3, .int a), (4, .int (nI 0))] [] := by
        refine up_loop (P := fun u => ∀ (m : Mem) (a : Int32), St u 0 m a → XV l M_X7_layFar G _ m 59 [(0, .ref (gA G 327)), (1, .ref (gA G r)), (3, .int a), (4, .int (nI u))] []) (n := 12) (Nat.zero_le _) ?_ ?_
        · intro m a hs
          obtain ⟨h1, h2, h3⟩ := hs
          refine t_X7_layFar_59 hG hr _ _ m ⟨fun _ => ?_, fun z => absurd (by decide) z⟩
          rcases h3 with ⟨rfl, h4⟩ | ⟨rfl, h4, h5⟩
          · exact IH m h1 h2 h4
          · exact t_X7_layFar_50 hG hr _ m ⟨fun _ => ⟨h1, fin m h1 h2 (fun u v hu hv => h5 u v hu hv (Or.inl hu))⟩, fun z => absurd rfl z⟩
        · intro u _ hu ih m a hs
          refine t_X7_layFar_59 hG hr _ _ m ⟨fun z => absurd ((i_nle (a := 12) (by decide) (by omega)).mp z) (by omega), fun _ => ?_⟩
          have next : ∀ (m : Mem) (a : Int32) (v : Nat), St u v m a → (v = 12 ∨ m 336 u = -9) → XV l M_X7_layFar G (fun m => (∀ a, a ≠ 336 → a ≠ 337 → m a = mem a) ∧ FarAt m c D H f) m 59 [(0, .ref (gA G 327)), (1, .ref (gA G r)), (3, .int a), (4, .int (nI (u + 1)))] [] := by
            intro m a v hs hq
            obtain ⟨h1, h2, h3⟩ := hs
            refine ih m a ⟨h1, h2, ?_⟩
            rcases h3 with h3 | ⟨h3, h4, h5⟩
            · exact Or.inl h3
            · refine Or.inr ⟨h3, h4, fun u' v' hu' hv' hlt hvis he => ?_⟩
              by_cases e : u' = u
              · subst e
                rcases hq with hq | hq
                · exact h5 u' v' hu' hv' (Or.inr ⟨rfl, by omega⟩) hvis he
                · exact absurd hq hvis
              · exact h5 u' v' hu' hv' (Or.inl (by omega)) hvis he
          refine up_loop (P := fun v => ∀ (m : Mem) (a : Int32), St u v m a → XV l M_X7_layFar G _ m 69 [(0, .ref (gA G 327)), (1, .ref (gA G r)), (3, .int a), (4, .int (nI u)), (5, .int (nI v))] []) (n := 12) (Nat.zero_le _) ?_ ?_ m a hs
          · intro m a hs
            refine t_X7_layFar_69 hG hr _ _ _ m ⟨fun _ => ?_, fun z => absurd (by decide) z⟩
            rw [nI_1]; exact next m a 12 hs (Or.inl rfl)
          · intro v _ hv ih2 m a hs
            obtain ⟨h1, h2, h3⟩ := hs
            have keep : (m 336 u ≠ -9 → 0 < E u v → m 336 v ≠ -9) → XV l M_X7_layFar G (fun m => (∀ a, a ≠ 336 → a ≠ 337 → m a = mem a) ∧ FarAt m c D H f) m 69 [(0, .ref (gA G 327)), (1, .ref (gA G r)), (3, .int a), (4, .int (nI u)), (5, .int (nI (v + 1)))] [] := by
              intro hq
              refine ih2 m a ⟨h1, h2, ?_⟩
              rcases h3 with h3 | ⟨h3, h4, h5⟩
              · exact Or.inl h3
              · refine Or.inr ⟨h3, h4, fun u' v' hu' hv' hlt hvis he => ?_⟩
                by_cases e : u' = u ∧ v' = v
                · obtain ⟨rfl, rfl⟩ := e; exact hq hvis he
                · exact h5 u' v' hu' hv' (by omega) hvis he
            refine t_X7_layFar_69 hG hr _ _ _ m ⟨fun z => absurd ((i_nle (a := 12) (by decide) (by omega)).mp z) (by omega), fun _ => ⟨i_in hu (by decide), fun z => ?_, fun hvis => ⟨_, c_at, ?_⟩⟩⟩
            · rw [i_cl (by omega)] at z
              rw [nI_1]; exact next m a v ⟨h1, h2, h3⟩ (Or.inr z)
            · rintro i m2 ⟨rfl, rfl⟩
              rw [i_cl (by omega)] at hvis
              have eE : m2 r (12 + 12 * u + v) = nI (E u v) := by rw [h1 r hr9.1 hr9.2]; exact h.2 u v hu hv
              have bE := F.2.2.1 u v
              rw [nI_1, i_cl (by omega), eE, i_le, i_nI (by omega), i_0]
              refine ⟨i_in (by omega) (by decide), fun z => keep (fun _ e => by omega), fun hE => ⟨i_in hv (by decide), fun z => ?_, fun hnv => ⟨i_in hu (by decide), _, c_at, ?_⟩⟩⟩
              · rw [i_cl (by omega)] at z; exact keep (fun _ _ => z)
              · rintro i m3 ⟨rfl, rfl⟩
                rw [i_cl (by omega)] at hnv
                refine ⟨i_in (by omega) (by decide), i_in hv (by decide), i_in hu (by decide), i_in hv (by decide), ?_⟩
                rw [i_cl (by omega), i_cl (by omega), i_cl (by omega), eE]
                have hE' : 0 < E u v := by omega
                have huv : u ≠ v := fun e => by rw [e] at hE'; have := F.tD.wi v; omega
                rcases h2.1 u hu with ⟨g, -⟩ | ⟨g1, g2, g3, g4⟩
                · exact absurd g hvis
                have cv : c f v := F.tD.tr g1 (F.tD.ed hE')
                have hD : D f v = D f u + E u v := by
                  rcases F.tD.a4 hE' g1 with z | z
                  · exfalso
                    have s1 := F.tD.ds g1
                    have s2 := F.tD.ds cv
                    rcases g4 with g4 | ⟨p, p1, p2, p3⟩
                    · subst g4
                      have := F.tD.d0 hf
                      omega
                    · have e := Nxt.uq F (F.tD.sy g1) p2 (y := v) ⟨hE', by omega⟩
                      subst e
                      exact p3 hnv
                  · exact z
                have hnx : Nxt E D v f u := by
                  have s1 := F.tD.ds g1
                  have s2 := F.tD.ds cv
                  have s3 := F.tD.ws u v
                  exact ⟨by omega, by omega⟩
                have hH : H f v = H f u + 1 := by
                  have := hnx.hp F (F.tD.sy cv)
                  have s1 := F.tH.ds g1
                  have s2 := F.tH.ds cv
                  omega
                rw [g2, wr_n (show (337 : Nat) ≠ 336 by decide), g3, nI_add, ← hD, nI_1, ← hH]
                refine ih2 _ 1 ⟨fun a h6 h7 => by rw [wr_n h7, wr_n h6]; exact h1 a h6 h7, ⟨fun x hx => ?_, ?_⟩, Or.inl ⟨rfl, ?_⟩⟩
                · have k1 : ∀ y, m3 336 y ≠ -9 → (wr (wr m3 336 v (nI (D f v))) 337 v (nI (H f v))) 336 y ≠ -9 := fun y hy => by
                    rw [wr_n (by decide), wr_at]
                    split
                    · have := F.dlt cv; exact i_n9 (by omega)
                    · exact hy
                  by_cases e : x = v
                  · subst e
                    refine Or.inr ⟨cv, ?_, ?_, Or.inr ⟨u, hu, hnx, k1 u hvis⟩⟩
                    · rw [wr_n (by decide), wr_at, if_pos ⟨rfl, rfl⟩]
                    · rw [wr_at, if_pos ⟨rfl, rfl⟩]
                  · have e1 : (wr (wr m3 336 v (nI (D f v))) 337 v (nI (H f v))) 336 x = m3 336 x := by rw [wr_n (by decide), wr_at, if_neg (by omega)]
                    have e2 : (wr (wr m3 336 v (nI (D f v))) 337 v (nI (H f v))) 337 x = m3 337 x := by rw [wr_at, if_neg (by omega), wr_n (by decide)]
                    rw [e1, e2]
                    rcases h2.1 x hx with g | ⟨y1, y2, y3, y4⟩
                    · exact Or.inl g
                    · refine Or.inr ⟨y1, y2, y3, ?_⟩
                      rcases y4 with y4 | ⟨p, p1, p2, p3⟩
                      · exact Or.inl y4
                      · exact Or.inr ⟨p, p1, p2, k1 p p3⟩
                · rw [wr_n (by decide), wr_at]
                  split
                  · have := F.dlt cv; exact i_n9 (by omega)
                  · exact h2.2
                · have un1 : unv m3 ≤ K + 1 := by rcases h3 with h3 | h3 <;> omega
                  have := smO_lt (p := fun y => m3 336 y = -9) (q := fun y => (wr (wr m3 336 v (nI (D f v))) 337 v (nI (H f v))) 336 y = -9) (f := fun _ => 1) (k := 12) (x := v) (fun y _ hy => by
                    rw [wr_n (by decide), wr_at] at hy
                    split at hy
                    · have := F.dlt cv; exact absurd hy (i_n9 (by omega))
                    · exact hy) hv hnv (fun hy => by
                    rw [wr_n (by decide), wr_at, if_pos ⟨rfl, rfl⟩] at hy
                    have := F.dlt cv; exact i_n9 (by omega) hy) (by decide)
                  unfold unv at un1 ⊢
                  omega
      exact outer m 0 ⟨ho, hL, Or.inr ⟨rfl, hun, fun u' v' _ _ hlt => by omega⟩⟩
  -- all vertices unvisited but f
  refine up_loop (P := fun k => ∀ m : Mem, (∀ a, a ≠ 336 → a ≠ 337 → m a = mem a) → (∀ v, v < k → m 336 v = (if v = f then 0 else -9) ∧ m 337 v = (if v = f then 0 else -9)) → XV l M_X7_layFar G _ m 2 [(0, .ref (gA G 327)), (1, .ref (gA G r)), (2, .int (nI f)), (3, .int (nI k))] []) (n := 12) (Nat.zero_le _) ?_ ?_ mem (fun _ _ _ => rfl) (fun v hv => absurd hv (Nat.not_lt_zero _))
  · intro m h1 h2
    refine t_X7_layFar_2 hG hr _ _ m ⟨fun _ => pass 12 m h1 ⟨fun v hv => ?_, ?_⟩ ?_, fun z => absurd (by decide) z⟩
    · obtain ⟨g1, g2⟩ := h2 v hv
      by_cases e : v = f
      · subst e
        rw [if_pos rfl] at g1 g2
        exact Or.inr ⟨F.tD.rf hf, by rw [g1, F.tD.d0 hf]; rfl, by rw [g2, F.tH.d0 hf]; rfl, Or.inl rfl⟩
      · rw [if_neg e] at g1 g2
        exact Or.inl ⟨g1, g2⟩
    · rw [(h2 f (by omega)).1, if_pos rfl]; decide
    · have := smO_le (p := fun v => m 336 v = -9) (f := fun _ => 1) (B := 1) (k := 12) (fun _ _ _ => Nat.le_refl _)
      unfold unv
      omega
  · intro k _ hk ih m h1 h2
    have step : ∀ x : Int32, x = (if k = f then 0 else -9) → XV l M_X7_layFar G (fun m => (∀ a, a ≠ 336 → a ≠ 337 → m a = mem a) ∧ FarAt m c D H f) (wr (wr m 336 k x) 337 k x) 2 [(0, .ref (gA G 327)), (1, .ref (gA G r)), (2, .int (nI f)), (3, .int (nI (k + 1)))] [] := by
      intro x hx
      refine ih _ (fun a h6 h7 => by rw [wr_n h7, wr_n h6]; exact h1 a h6 h7) (fun v hv => ?_)
      by_cases e : v = k
      · subst e
        exact ⟨by rw [wr_n (by decide), wr_at, if_pos ⟨rfl, rfl⟩]; exact hx, by rw [wr_at, if_pos ⟨rfl, rfl⟩]; exact hx⟩
      · exact ⟨by rw [wr_n (by decide), wr_at, if_neg (by omega)]; exact (h2 v (by omega)).1, by rw [wr_at, if_neg (by omega), wr_n (by decide)]; exact (h2 v (by omega)).2⟩
    have kin := i_in (k := k) (n := 12) hk (by decide)
    refine t_X7_layFar_2 hG hr _ _ m ⟨fun z => absurd ((i_nle (a := 12) (by decide) (by omega)).mp z) (by omega), fun _ => ?_⟩
    rw [nI_1, i_cl (by omega), i_neq (by omega) (by omega)]
    exact ⟨fun e => ⟨kin, fun _ => ⟨kin, step (-9) (by rw [if_neg e])⟩, fun e2 => absurd e2 e⟩, fun e => ⟨kin, fun e2 => absurd e e2, fun _ => ⟨kin, step 0 (by rw [if_pos e])⟩⟩⟩
end CM
