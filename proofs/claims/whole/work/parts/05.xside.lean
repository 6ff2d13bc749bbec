/-! X's search for a path -/
theorem tn_room0 {a b : Nat} (ha : a < 2 ^ 30) (hb : b < 2 ^ 30) : (nI a - nI b ≤ 0) ↔ a ≤ b := by
  rw [Int32.le_iff_toInt_le, pk_sub_toInt ha hb, show (0 : Int32).toInt = 0 from by decide]
  omega
noncomputable def tn_or (th up cl : Nat → Int32) (a : Int32) (ca bw pr ln nd : Nat → Nat) (q : Int32) (p c : Nat) : Nat := tn_q (tn_OP th up cl a c) (ca c - tn_tk bw pr ln nd q p c)
def tn_EU (th up cl : Nat → Int32) (a : Int32) (ca bw pr ln nd : Nat → Nat) (q : Int32) (p b c : Nat) : Prop := c < 36 ∧ tn_OP th up cl a c ∧ b + tn_tk bw pr ln nd q p c ≤ ca c
def tn_TH (th : Nat → Int32) : Prop := ∀ c, th c ≠ 0 → c < 36 ∧ c / 6 < c % 6
section
variable {fl le bl bc : Int32} {th up cl av st wa op rk fn pa be : Nat → Int32} {co ca en bw pr ln nd : Nat → Nat} {tl : Nat → Int64}
theorem tn_EU_gd {a q : Int32} {p b : Nat} (h : tn_TH th) : tn_Gd (tn_EU th up cl a ca bw pr ln nd q p b) := fun c e => h c e.2.1.1
theorem tn_or_EU {a q : Int32} {p b c : Nat} (hca : ∀ c, ca c ≤ 100) (hb : 1 ≤ b) (hb2 : b ≤ 100) (hc : c < 36) (e : op c = nI (tn_or th up cl a ca bw pr ln nd q p c)) : op c < nI b ↔ ¬ tn_EU th up cl a ca bw pr ln nd q p b c := by
  have h1 := hca c
  have h2 : tn_or th up cl a ca bw pr ln nd q p c ≤ ca c := Nat.le_trans tn_q_le (Nat.sub_le _ _)
  rw [e, nI_ltI (by omega) (by omega)]
  unfold tn_or tn_EU
  rcases Classical.em (tn_OP th up cl a c) with o | o
  · rw [tn_q_t o]
    constructor
    · intro l z
      have := z.2.2
      omega
    · intro l
      rcases Nat.lt_or_ge (ca c - tn_tk bw pr ln nd q p c) b with y | y
      · exact y
      · exact absurd ⟨hc, o, by omega⟩ l
  · rw [tn_q_f o]
    exact ⟨fun _ z => o z.2.1, fun _ => hb⟩
theorem tn_x_rooms {post : SX → Prop} {p : Nat} {a q : Int32} (hp : p < 2 ^ 20) (hpr : ∀ t, pr t ≤ 3) (hca : ∀ c, ca c ≤ 100) (hbw : ∀ t, bw t ≤ 100) (hT : tn_TL tl ln nd)
    (h : ∀ op', (∀ c, c < 36 → op' c = nI (tn_or th up cl a ca bw pr ln nd q p c)) → post (fl, th, up, tn_I co, tn_I ca, cl, st, tn_I en, tn_I bw, tn_I pr, av, tl, tn_I nd, tn_I ln, op', rk, fn)) : wpX_openRooms post (fl, th, up, tn_I co, tn_I ca, cl, st, tn_I en, tn_I bw, tn_I pr, av, tl, tn_I nd, tn_I ln, op, rk, fn) (nI p) a q := by
  have key : ∀ d i op, i + d = 36 → (∀ c, c < i → op c = nI (tn_or th up cl a ca bw pr ln nd q p c)) → wX_openRooms_3 post (nI p) a q fl (d + 1) (nI i) th up (tn_I co) (tn_I ca) cl st (tn_I en) (tn_I bw) (tn_I pr) av tl (tn_I nd) (tn_I ln) op rk fn := by
    intro d
    induction d with
    | zero =>
      intro i op hi ho
      have : i = 36 := by omega
      subst this
      exact br_t (by decide) (h op ho)
    | succ d ih =>
      intro i op hi ho
      have nx : ∀ op' : Nat → Int32, (∀ c, c ≠ i → op' c = op c) → op' i = nI (tn_or th up cl a ca bw pr ln nd q p i) → wX_openRooms_3 post (nI p) a q fl (d + 1) (nI (i + 1)) th up (tn_I co) (tn_I ca) cl st (tn_I en) (tn_I bw) (tn_I pr) av tl (tn_I nd) (tn_I ln) op' rk fn := by
        intro op' h1 h2
        refine ih (i + 1) op' (by omega) fun c hc => ?_
        by_cases z : c = i
        · subst z; exact h2
        · rw [h1 c z]; exact ho c (by omega)
      refine br_f (tn_i36 (by omega)) ⟨tn_v36 (by omega), nm_r (congrArg (fun z => upd op z 0) (nI_clamp (by omega))) ?_⟩
      refine tn_x_use (by omega) (fun o => br_f (by decide) (tn_x_room (by omega) hp hpr hT ?_)) (fun o => br_t rfl (nm_r (nI_1 i) (nx _ (fun c hc => pk_un hc) ?_)))
      · have l1 := hca i
        have l2 := tn_tk_le (pr := pr) (ln := ln) (nd := nd) hbw q p i
        by_cases z : ca i ≤ tn_tk bw pr ln nd q p i
        · refine br_t ((tn_room0 (by omega) (by omega)).2 z) ⟨tn_v36 (by omega), nm_r (congrArg (fun z => upd (upd op i 0) z 0) (nI_clamp (by omega))) (nm_r (nI_1 i) (nx _ (fun c hc => by rw [pk_un hc, pk_un hc]) ?_))⟩
          rw [pk_us, tn_or, tn_q_t o, show ca i - tn_tk bw pr ln nd q p i = 0 by omega]
          rfl
        · refine br_f (fun y => z ((tn_room0 (by omega) (by omega)).1 y)) ⟨tn_v36 (by omega), nm_r (congrArg (fun z => upd (upd op i 0) z _) (nI_clamp (by omega))) (nm_r (nI_1 i) (nx _ (fun c hc => by rw [pk_un hc, pk_un hc]) ?_))⟩
          rw [pk_us, tn_or, tn_q_t o, pk_sub (by omega)]
      · rw [pk_us, tn_or, tn_q_f o]
        rfl
  exact ⟨37, key 36 0 op (by omega) (fun c hc => absurd hc (Nat.not_lt_zero c))⟩
theorem tn_rx_id {a b s : Nat} {k : Nat → Nat} (h : k a ≤ k b + s) : tn_rx a b s k = k := by
  funext i
  unfold tn_rx
  rw [if_neg (fun z => by have := z.2; omega)]
theorem tn_rx_upd {a b s : Nat} {k : Nat → Nat} {rk : Nat → Int32} (hb : b < 6) (h : k b + s < k a) (e : ∀ i, i < 6 → rk i = nI (k i)) : ∀ i, i < 6 → upd rk a (rk b + nI s) i = nI (tn_rx a b s k i) := by
  intro i hi
  unfold tn_rx
  by_cases z : i = a
  · subst z
    rw [pk_us, if_pos ⟨rfl, h⟩, e b hb, nI_add]
  · rw [pk_un z, if_neg (fun y => z y.1), e i hi]
theorem tn_x_low {post : SX → Prop} {c : Nat} {k : Nat → Nat} (hc : c < 36) (hco : ∀ c, co c ≤ 20) (hk : ∀ i, i < 6 → k i ≤ 1000000) (e : ∀ i, i < 6 → rk i = nI (k i))
    (h : ∀ rk' : Nat → Int32, (∀ i, i < 6 → rk' i = nI (tn_rx (c % 6) (c / 6) (tn_w co c) (tn_rx (c / 6) (c % 6) (tn_w co c) k) i)) → post (fl, th, up, tn_I co, tn_I ca, cl, st, tn_I en, tn_I bw, tn_I pr, av, tl, tn_I nd, tn_I ln, op, rk', fn)) : wpX_lowerRanks post (fl, th, up, tn_I co, tn_I ca, cl, st, tn_I en, tn_I bw, tn_I pr, av, tl, tn_I nd, tn_I ln, op, rk, fn) (nI c) := by
  have hb := hco c
  have ha : c / 6 < 6 := by omega
  have hm : c % 6 < 6 := by omega
  have s1 : tn_w co c ≤ 161 := by unfold tn_w; omega
  have es : tn_I co (nI c).toNatClampNeg * 8 + 1 = nI (tn_w co c) := by
    rw [tn_cl (tn_I co) (by omega), show (8 : Int32) = nI 8 from rfl, pk_mul, nI_1]
    unfold tn_w
    exact congrArg nI (by omega)
  have second : ∀ (rk : Nat → Int32) (k1 : Nat → Nat), (∀ i, i < 6 → k1 i ≤ 1000000) → (∀ i, i < 6 → rk i = nI (k1 i)) → k1 = tn_rx (c / 6) (c % 6) (tn_w co c) k → wX_lowerRanks_56 post (nI (c / 6)) (nI (c % 6)) (nI (tn_w co c)) fl th up (tn_I co) (tn_I ca) cl st (tn_I en) (tn_I bw) (tn_I pr) av tl (tn_I nd) (tn_I ln) op rk fn := by
    intro rk k1 hk1 e1 ek
    have b1 := hk1 _ ha
    have b2 := hk1 _ hm
    refine ⟨tn_v6 ha, tn_v6 hm, ?_⟩
    rw [nI_clamp (show c / 6 < 2 ^ 31 by omega), nI_clamp (show c % 6 < 2 ^ 31 by omega)]
    refine pk_le (k1 (c % 6)) (k1 (c / 6) + tn_w co c) (fun z => ?_) (fun z => ?_) (e1 _ hm) (by rw [e1 _ ha, nI_add]) (by omega) (by omega)
    · refine h rk fun i hi => ?_
      rw [← ek, tn_rx_id z, e1 i hi]
    · refine ⟨tn_v6 ha, tn_v6 hm, fun y ey => ?_⟩
      subst ey
      refine h _ fun i hi => ?_
      rw [← ek]
      exact tn_rx_upd ha z e1 i hi
  refine ⟨tn_6, nm_r (tn_d6 (by omega)) ⟨tn_6, nm_r (tn_r6 (by omega)) ⟨tn_v36 hc, nm_r es ⟨tn_v6 hm, tn_v6 ha, ?_⟩⟩⟩⟩
  have b1 := hk _ ha
  have b2 := hk _ hm
  rw [nI_clamp (show c / 6 < 2 ^ 31 by omega), nI_clamp (show c % 6 < 2 ^ 31 by omega)]
  refine pk_le (k (c / 6)) (k (c % 6) + tn_w co c) (fun z => ?_) (fun z => ?_) (e _ ha) (by rw [e _ hm, nI_add]) (by omega) (by omega)
  · exact second rk k hk e (tn_rx_id z).symm
  · refine ⟨tn_v6 hm, tn_v6 ha, fun y ey => ?_⟩
    subst ey
    exact second _ (tn_rx (c / 6) (c % 6) (tn_w co c) k) (fun i hi => Nat.le_trans (tn_rx_le _ _ _ _ i) (hk i hi)) (tn_rx_upd hm z e) rfl
theorem tn_x_rank {post : SX → Prop} {E : Nat → Prop} {g b : Nat} (hE : tn_Gd E) (hop : ∀ c, c < 36 → (op c < nI b ↔ ¬ E c)) (hco : ∀ c, co c ≤ 20) (hg : g < 6)
    (h : ∀ (rk' : Nat → Int32) (k : Nat → Nat), (∀ i, i < 6 → rk' i = nI (k i)) → tn_RK E (tn_w co) g 1000000 k → post (fl, th, up, tn_I co, tn_I ca, cl, st, tn_I en, tn_I bw, tn_I pr, av, tl, tn_I nd, tn_I ln, op, rk', fn)) : wpX_rankNodes post (fl, th, up, tn_I co, tn_I ca, cl, st, tn_I en, tn_I bw, tn_I pr, av, tl, tn_I nd, tn_I ln, op, rk, fn) (nI g) (nI b) := by
  have inner : ∀ (J : Int32 → Int32 → (Nat → Int32) → (Nat → Int32) → (Nat → Int32) → (Nat → Int32) → (Nat → Int32) → (Nat → Int32) → (Nat → Int32) → (Nat → Int32) → (Nat → Int32) → (Nat → Int32) → (Nat → Int64) → (Nat → Int32) → (Nat → Int32) → (Nat → Int32) → (Nat → Int32) → (Nat → Int32) → Prop) (r : Nat),
      (∀ (rk' : Nat → Int32) (k : Nat → Nat), (∀ i, i < 6 → rk' i = nI (k i)) → tn_LI E (tn_w co) g 1000000 (r + 1) 0 k → J (nI (r + 2)) fl th up (tn_I co) (tn_I ca) cl st (tn_I en) (tn_I bw) (tn_I pr) av tl (tn_I nd) (tn_I ln) op rk' fn) →
      ∀ d i (rk : Nat → Int32) (k : Nat → Nat), i + d = 36 → (∀ i, i < 6 → rk i = nI (k i)) → tn_LI E (tn_w co) g 1000000 r i k → wX_rankNodes_42 post J (nI b) (nI (r + 1)) (d + 1) (nI i) fl th up (tn_I co) (tn_I ca) cl st (tn_I en) (tn_I bw) (tn_I pr) av tl (tn_I nd) (tn_I ln) op rk fn := by
    intro J r hJ d
    induction d with
    | zero =>
      intro i rk k hi e L
      have : i = 36 := by omega
      subst this
      exact br_t (by decide) (nm_r (nI_1 (r + 1)) (hJ rk k e (tn_LI_next hE L)))
    | succ d ih =>
      intro i rk k hi e L
      refine br_f (tn_i36 (by omega)) ⟨tn_v36 (by omega), ?_⟩
      rw [tn_cl op (by omega)]
      refine br_c (fun z => nm_r (nI_1 i) (ih (i + 1) rk k (by omega) e (tn_LI_skip L ((hop i (by omega)).1 z)))) (fun z => ?_)
      have ei : E i := Classical.byContradiction fun y => z ((hop i (by omega)).2 y)
      refine tn_x_low (by omega) hco L.1.2.1 e fun rk' e' => nm_r (nI_1 i) ?_
      exact ih (i + 1) rk' _ (by omega) e' (tn_LI_step hE L ei)
  have outer : ∀ d r (rk : Nat → Int32) (k : Nat → Nat), r + d = 5 → (∀ i, i < 6 → rk i = nI (k i)) → tn_LI E (tn_w co) g 1000000 r 0 k → wX_rankNodes_33 post (nI b) (d + 1) (nI (r + 1)) fl th up (tn_I co) (tn_I ca) cl st (tn_I en) (tn_I bw) (tn_I pr) av tl (tn_I nd) (tn_I ln) op rk fn := by
    intro d
    induction d with
    | zero =>
      intro r rk k hr e L
      have : r = 5 := by omega
      subst this
      exact br_t (by decide) (h rk k e (tn_LI_fin tn_w_1 L))
    | succ d ih =>
      intro r rk k hr e L
      exact br_f (tn_i6 (by omega)) ⟨37, inner _ r (fun rk' k' e' L' => ih (r + 1) rk' k' (by omega) e' L') 36 0 rk k (by omega) e L⟩
  have first : ∀ d i (rk : Nat → Int32), i + d = 6 → (∀ j, j < i → rk j = nI (if j = g then 0 else 1000000)) → wX_rankNodes_2 post (nI g) (nI b) fl (d + 1) (nI i) th up (tn_I co) (tn_I ca) cl st (tn_I en) (tn_I bw) (tn_I pr) av tl (tn_I nd) (tn_I ln) op rk fn := by
    intro d
    induction d with
    | zero =>
      intro i rk hi e
      have : i = 6 := by omega
      subst this
      exact br_t (by decide) ⟨6, outer 5 0 rk (fun j => if j = g then 0 else 1000000) (by omega) e (tn_LI_0 (if_pos rfl) (fun v _ hv => if_neg hv))⟩
    | succ d ih =>
      intro i rk hi e
      have nx : ∀ x, x = nI (if i = g then 0 else 1000000) → wX_rankNodes_2 post (nI g) (nI b) fl (d + 1) (nI (i + 1)) th up (tn_I co) (tn_I ca) cl st (tn_I en) (tn_I bw) (tn_I pr) av tl (tn_I nd) (tn_I ln) op (upd rk i x) fn := by
        intro x hx
        refine ih (i + 1) _ (by omega) fun j hj => ?_
        by_cases z : j = i
        · subst z; rw [pk_us]; exact hx
        · rw [pk_un z]; exact e j (by omega)
      refine br_f (tn_i6 (by omega)) (pk_eq i g (fun z => ⟨tn_v6 (by omega), nm_r (congrArg (fun z => upd rk z 0) (nI_clamp (by omega))) (nm_r (nI_1 i) (nx 0 (by rw [if_pos z]; rfl)))⟩) (fun z => ⟨tn_v6 (by omega), nm_r (congrArg (fun z => upd rk z 1000000) (nI_clamp (by omega))) (nm_r (nI_1 i) (nx 1000000 (by rw [if_neg z]; rfl)))⟩))
  exact ⟨7, first 6 0 rk (by omega) (fun j hj => absurd hj (Nat.not_lt_zero j))⟩
theorem tn_x_fit {post : Int32 → SX → Prop} {t : Nat} (ht : t < 8) (hTH : tn_TH th) (hpr : ∀ t, pr t ≤ 3) (hca : ∀ c, ca c ≤ 100) (hbw : ∀ t, bw t ≤ 100) (hb1 : 1 ≤ bw t) (hco : ∀ c, co c ≤ 20) (hen : ∀ t, en t < 36) (hT : tn_TL tl ln nd)
    (h : ∀ (op' rk' : Nat → Int32) (k : Nat → Nat), (∀ c, c < 36 → (op' c < nI (bw t) ↔ ¬ tn_EU th up cl (av t) ca bw pr ln nd (nI t) (pr t) (bw t) c)) → (∀ i, i < 6 → rk' i = nI (k i)) → tn_RK (tn_EU th up cl (av t) ca bw pr ln nd (nI t) (pr t) (bw t)) (tn_w co) (en t % 6) 1000000 k →
      ((k (en t / 6) < 1000000 → post 1 (fl, th, up, tn_I co, tn_I ca, cl, st, tn_I en, tn_I bw, tn_I pr, av, tl, tn_I nd, tn_I ln, op', rk', fn)) ∧ (¬ k (en t / 6) < 1000000 → post 0 (fl, th, up, tn_I co, tn_I ca, cl, st, tn_I en, tn_I bw, tn_I pr, av, tl, tn_I nd, tn_I ln, op', rk', fn)))) : wpX_hasFitPath post (fl, th, up, tn_I co, tn_I ca, cl, st, tn_I en, tn_I bw, tn_I pr, av, tl, tn_I nd, tn_I ln, op, rk, fn) (nI t) := by
  have he := hen t
  have hp := hpr t
  have v := tn_v8 ht
  have hb2 := hbw t
  unfold wpX_hasFitPath
  dsimp only
  rw [nI_clamp (show t < 2 ^ 31 by omega)]
  refine ⟨v, v, tn_x_rooms (by omega) hpr hca hbw hT fun op' ho => ?_⟩
  refine ⟨v, tn_6, v, ?_⟩
  rw [tn_r6 (show en t < 2 ^ 31 by omega)]
  have hop := fun c (hc : c < 36) => tn_or_EU (th := th) (up := up) (cl := cl) (pr := pr) (ln := ln) (nd := nd) (bw := bw) (b := bw t) (a := av t) (q := nI t) (p := pr t) hca hb1 hb2 hc (ho c hc)
  refine tn_x_rank (tn_EU_gd hTH) hop hco (by omega) fun rk' k e K => ?_
  obtain ⟨p1, p0⟩ := h op' rk' k hop e K
  have kb := K.2.1 (en t / 6) (by omega)
  dsimp only
  refine ⟨v, tn_6, ?_⟩
  rw [tn_d6 (show en t < 2 ^ 31 by omega)]
  refine ⟨tn_v6 (by omega), ?_⟩
  rw [nI_clamp (show en t / 6 < 2 ^ 31 by omega)]
  exact pk_le 1000000 (k (en t / 6)) (fun z => p0 (by omega)) (fun z => p1 z) rfl (e _ (by omega)) (by omega) (by omega)
theorem tn_x_next {post : Int32 → Prop} {E : Nat → Prop} {s b : Nat} {k : Nat → Nat} (hop : ∀ c, c < 36 → (op c < nI b ↔ ¬ E c)) (hco : ∀ c, co c ≤ 20) (hs : s < 6) (hk : ∀ i, i < 6 → k i ≤ 1000000) (e : ∀ i, i < 6 → rk i = nI (k i))
    (hx : ∃ u, u < 6 ∧ E (tn_cd s u) ∧ k u + tn_w co (tn_cd s u) = k s)
    (h : ∀ u, u < 6 → E (tn_cd s u) → k u + tn_w co (tn_cd s u) = k s → (∀ v, v < 6 → E (tn_cd s v) → k v + tn_w co (tn_cd s v) = k s → u ≤ v) → post (nI u)) : wpX_nextOnBest post (fl, th, up, tn_I co, tn_I ca, cl, st, tn_I en, tn_I bw, tn_I pr, av, tl, tn_I nd, tn_I ln, op, rk, fn) (nI s) (nI b) := by
  have key : ∀ d i, i + d = 6 → (∀ j, j < i → ¬ (E (tn_cd s j) ∧ k j + tn_w co (tn_cd s j) = k s)) → wX_nextOnBest_2 post (nI s) (nI b) fl th up (tn_I co) (tn_I ca) cl st (tn_I en) (tn_I bw) (tn_I pr) av tl (tn_I nd) (tn_I ln) op rk fn (d + 1) (nI i) := by
    intro d
    induction d with
    | zero =>
      intro i hi hj
      obtain ⟨u, hu, e1, e2⟩ := hx
      exact absurd ⟨e1, e2⟩ (hj u (by omega))
    | succ d ih =>
      intro i hi hj
      have nx : ¬ (E (tn_cd s i) ∧ k i + tn_w co (tn_cd s i) = k s) → wX_nextOnBest_2 post (nI s) (nI b) fl th up (tn_I co) (tn_I ca) cl st (tn_I en) (tn_I bw) (tn_I pr) av tl (tn_I nd) (tn_I ln) op rk fn (d + 1) (nI (i + 1)) := fun z => ih (i + 1) (by omega) fun j hj2 => by
        by_cases y : j = i
        · subst y; exact z
        · exact hj j (by omega)
      have c36 := tn_cd_lt hs (show i < 6 by omega)
      have hc20 := hco (tn_cd s i)
      have es : tn_I co (nI (tn_cd s i)).toNatClampNeg * 8 + 1 = nI (tn_w co (tn_cd s i)) := by
        rw [tn_cl (tn_I co) (by omega), show (8 : Int32) = nI 8 from rfl, pk_mul, nI_1]
        unfold tn_w
        exact congrArg nI (by omega)
      refine br_f (tn_i6 (by omega)) (tn_x_code (by omega) (by omega) ⟨tn_v36 c36, nm_r es ⟨tn_v36 c36, ?_⟩⟩)
      rw [tn_cl op (by omega)]
      refine br_c (fun z => nm_r (nI_1 i) (nx fun y => (hop _ c36).1 z y.1)) (fun z => ?_)
      have ei : E (tn_cd s i) := Classical.byContradiction fun y => z ((hop _ c36).2 y)
      refine ⟨tn_v6 (by omega), tn_v6 hs, ?_⟩
      have s1 : tn_w co (tn_cd s i) ≤ 161 := by unfold tn_w; omega
      have k1 := hk i (by omega)
      have k2 := hk s hs
      rw [tn_cl rk (by omega), tn_cl rk (by omega)]
      refine pk_eq (k i + tn_w co (tn_cd s i)) (k s) (fun y => h i (by omega) ei y fun v hv e1 e2 => ?_) (fun y => nm_r (nI_1 i) (nx fun z => y z.2)) (by rw [e i (by omega), nI_add]) (e s hs) (by omega) (by omega)
      rcases Nat.lt_or_ge v i with l | l
      · exact absurd ⟨e1, e2⟩ (hj v l)
      · exact l
  exact ⟨7, key 6 0 (by omega) (fun j hj => absurd hj (Nat.not_lt_zero j))⟩
theorem tn_TR_ext {E : Nat → Prop} {w k : Nat → Nat} {s m u : Nat} {f : Nat → Nat} (h : tn_TR E w k s f m) (hu : u < 6) (h1 : E (tn_cd (f m) u)) (h2 : k u + w (tn_cd (f m) u) = k (f m)) (h3 : ∀ v, v < 6 → E (tn_cd (f m) v) → k v + w (tn_cd (f m) v) = k (f m) → u ≤ v) : tn_TR E w k s (tn_up f (m + 1) u) (m + 1) := by
  refine ⟨by rw [tn_up_n (by omega)]; exact h.1, fun i hi => ?_, fun i hi => ?_⟩
  · by_cases z : i = m + 1
    · subst z; rw [tn_up_s]; exact hu
    · rw [tn_up_n z]; exact h.2.1 i (by omega)
  · by_cases z : i = m
    · subst z
      rw [tn_up_s, tn_up_n (by omega)]
      exact ⟨h1, h2, h3⟩
    · rw [tn_up_n (show i ≠ m + 1 by omega), tn_up_n (show i + 1 ≠ m + 1 by omega)]
      exact h.2.2 i (by omega)
theorem tn_x_trace {post : SX → Prop} {E : Nat → Prop} {t : Nat} {k : Nat → Nat} (ht : t < 8) (hen : ∀ t, en t < 36) (hbw : ∀ t, bw t ≤ 100) (hop : ∀ c, c < 36 → (op c < nI (bw t) ↔ ¬ E c)) (hco : ∀ c, co c ≤ 20) (e : ∀ i, i < 6 → rk i = nI (k i)) (K : tn_RK E (tn_w co) (en t % 6) 1000000 k) (hF : k (en t / 6) < 1000000)
    (h : ∀ (fn' : Nat → Int32) (f : Nat → Nat) (m : Nat), m ≤ 5 → tn_TR E (tn_w co) k (en t / 6) f m → f m = en t % 6 → (∀ i, i ≤ m → fn' i = nI (f i)) → post (nI (m + 1), th, up, tn_I co, tn_I ca, cl, st, tn_I en, tn_I bw, tn_I pr, av, tl, tn_I nd, tn_I ln, op, rk, fn')) : wpX_traceBestPath post (fl, th, up, tn_I co, tn_I ca, cl, st, tn_I en, tn_I bw, tn_I pr, av, tl, tn_I nd, tn_I ln, op, rk, fn) (nI t) := by
  have he := hen t
  have v := tn_v8 ht
  have key : ∀ d m (fn : Nat → Int32) (f : Nat → Nat), m + d = 5 → tn_TR E (tn_w co) k (en t / 6) f m → (∀ i, i ≤ m → fn i = nI (f i)) → wX_traceBestPath_35 post (nI t) (nI (en t % 6)) (d + 1) (nI (f m)) (nI (m + 1)) (nI (m + 1)) th up (tn_I co) (tn_I ca) cl st (tn_I en) (tn_I bw) (tn_I pr) av tl (tn_I nd) (tn_I ln) op rk fn := by
    intro d
    induction d with
    | zero =>
      intro m fn f hm R ef
      have : m = 5 := by omega
      subst this
      refine br_t (by decide) (h fn f 5 (by omega) R ?_ ef)
      have c := tn_TR_ct tn_w_1 R 5 (Nat.le_refl _)
      refine Classical.byContradiction fun z => ?_
      have l5 := R.2.1 5 (Nat.le_refl _)
      have k5 := tn_TR_k R 5 (Nat.le_refl _)
      obtain ⟨u, hu, -, ek⟩ := K.2.2.2 (f 5) l5 z (by omega)
      have w1 := tn_w_1 (co := co) (tn_cd (f 5) u)
      have := tn_ct_lt (k := k) (v := f 5) hu (by omega)
      omega
    | succ d ih =>
      intro m fn f hm R ef
      have l5 := R.2.1 m (Nat.le_refl _)
      have k5 := tn_TR_k R m (Nat.le_refl _)
      refine br_f (tn_i6 (by omega)) (pk_eq (f m) (en t % 6) (fun z => h fn f m (by omega) R z ef) (fun z => ⟨v, ?_⟩) rfl rfl (by omega) (by omega))
      rw [tn_cl (tn_I bw) (by omega)]
      refine tn_x_next hop hco l5 K.2.1 e (K.2.2.2 (f m) l5 z (by omega)) fun u hu h1 h2 h3 => ⟨tn_v6 (by omega), nm_r (congrArg (fun z => upd fn z (nI u)) (nI_clamp (by omega))) (nm_r (nI_1 (m + 1)) (nm_r (nI_1 (m + 1)) ?_))⟩
      have q := ih (m + 1) (upd fn (m + 1) (nI u)) (tn_up f (m + 1) u) (by omega) (tn_TR_ext R hu h1 h2 h3) fun i hi => by
        by_cases y : i = m + 1
        · subst y; rw [pk_us, tn_up_s]
        · rw [pk_un y, tn_up_n y]; exact ef i (by omega)
      rw [tn_up_s] at q
      exact q
  refine ⟨v, tn_6, nm_r (e' := nI (en t / 6)) (by rw [tn_cl (tn_I en) (by omega)]; exact tn_d6 (by omega)) ⟨v, tn_6, nm_r (e' := nI (en t % 6)) (by rw [tn_cl (tn_I en) (by omega)]; exact tn_r6 (by omega)) (nm_e ⟨6, ?_⟩)⟩⟩
  exact key 5 0 (upd fn 0 (nI (en t / 6))) (fun _ => en t / 6) (by omega) ⟨rfl, fun i _ => (show en t / 6 < 6 by omega), fun i hi => absurd hi (Nat.not_lt_zero i)⟩ fun i hi => by
    have : i = 0 := by omega
    subst this
    exact pk_us
end
