/-! quote, widest -/
theorem tn_least6 (P : Nat → Prop) (h : ∃ u, u < 6 ∧ P u) : ∃ u, u < 6 ∧ P u ∧ ∀ v, v < 6 → P v → u ≤ v := by
  obtain ⟨u, ⟨h1, h2⟩, h3⟩ := pk_least (fun u => u < 6 ∧ P u) h
  exact ⟨u, h1, h2, fun v hv hp => Nat.le_of_not_lt fun z => h3 v z ⟨hv, hp⟩⟩
/-- ranks have a walk -/
theorem tn_TR_ex {E : Nat → Prop} {w k : Nat → Nat} {g F : Nat} (hw : ∀ c, 1 ≤ w c) (K : tn_RK E w g F k) : ∀ N v, k v < N → v < 6 → k v < F → ∃ f m, tn_TR E w k v f m ∧ f m = g := by
  intro N
  induction N with
  | zero => intro v h; omega
  | succ N ih =>
    intro v hN hv hF
    by_cases hg : v = g
    · exact ⟨fun _ => v, 0, ⟨rfl, fun _ _ => hv, fun i hi => absurd hi (Nat.not_lt_zero i)⟩, hg⟩
    · obtain ⟨u, hu, ⟨h1, h2⟩, h3⟩ := tn_least6 (fun u => E (tn_cd v u) ∧ k u + w (tn_cd v u) = k v) (by
        obtain ⟨u, hu, a, b⟩ := K.2.2.2 v hv hg hF
        exact ⟨u, hu, a, b⟩)
      have := hw (tn_cd v u)
      obtain ⟨f, m, R, e⟩ := ih u (by omega) hu (by omega)
      refine ⟨fun i => match i with | 0 => v | i + 1 => f i, m + 1, ⟨rfl, fun i hi => ?_, fun i hi => ?_⟩, e⟩
      · cases i with
        | zero => exact hv
        | succ i => exact R.2.1 i (by omega)
      · cases i with
        | zero =>
          show E (tn_cd v (f 0)) ∧ k (f 0) + w (tn_cd v (f 0)) = k v ∧ ∀ u, u < 6 → E (tn_cd v u) → k u + w (tn_cd v u) = k v → f 0 ≤ u
          rw [R.1]
          exact ⟨h1, h2, fun x hx a b => h3 x hx ⟨a, b⟩⟩
        | succ i => exact R.2.2 i (by omega)
theorem tn_RK_best {E : Nat → Prop} {co k : Nat → Nat} {F e : Nat} (K : tn_RK E (tn_w co) (e % 6) F k) (h36 : e < 36) (hne : e / 6 ≠ e % 6) (hF : k (e / 6) < F) : ∃ b n, tn_BE E co e b n ∧ k (e / 6) = 8 * tn_CO co (tn_pt e b n) (b + 1) + (b + 1) := by
  obtain ⟨f, m, R, hg⟩ := tn_TR_ex tn_w_1 K _ (e / 6) (Nat.lt_succ_self _) (by omega) hF
  obtain ⟨b, n, -, B, -, h⟩ := tn_TR_best K h36 hne R hg
  exact ⟨b, n, B, h⟩
theorem i_vc_quote {k : Nat} {u : SX} {v : SY} (I : i_Rel k u v) (hk : k + 5 ≤ 2560) (v1 : Int32) (v2 : Int32) (v3 : Int32) : wpX_quote (fun r u' => wpY_quote (fun r' v' => r' = r ∧ i_Rel (k + 5) u' v') v v1 v2 v3) u v1 v2 v3 := by
  have I0 := I
  obtain ⟨fl, le, bl, bc, th, up, cl, av, st, wa, op, rk, fn, pa, be, co, ca, en, bw, pr, ln, nd, tl, rfl, rfl, hF, hM, hO, hN, hS, hT⟩ := I
  obtain ⟨fTH, fco, fca, fen, fbw, fpr, fwa⟩ := id hF
  rcases Classical.em (tn_of v1 v2 v3) with g | g
  · obtain ⟨g3, g4, g5⟩ := id g
    obtain ⟨e, he, he2, rfl⟩ := id g3
    obtain ⟨b, hb1, hb2, rfl⟩ := id g4
    obtain ⟨m, -, hm, rfl⟩ := id g5
    have e31 : e < 2 ^ 31 := by omega
    unfold wpX_quote
    dsimp only
    rw [tn_r8 (show m < 2 ^ 31 by omega), tn_d8 (show m < 2 ^ 31 by omega), tn_r6 e31, tn_d6 e31, nI_clamp (show e / 6 < 2 ^ 31 by omega)]
    refine tn_x_of (fun _ => br_f (by decide) ⟨tn_8, tn_8, ?_⟩) (fun z => absurd g z)
    refine tn_x_rooms (by omega) fpr fca fbw hT fun op' ho => ⟨tn_6, ?_⟩
    have hop := fun c (hc : c < 36) => tn_or_EU (th := th) (up := up) (cl := cl) (pr := pr) (ln := ln) (nd := nd) (bw := bw) (b := b) (a := nI (m % 8)) (q := -1) (p := m / 8) fca hb1 hb2 hc (ho c hc)
    refine tn_x_rank (tn_EU_gd fTH) hop fco (by omega) fun rk' kk ek K => ⟨tn_6, tn_v6 (by omega), nm_r (ek (e / 6) (by omega)) ?_⟩
    have kb := K.2.1 (e / 6) (by omega)
    have YY : ∀ post : Int32 → SY → Prop, wpY_findBest (fun r u => (r = 0 → post (-2) u) ∧ (¬ r = 0 → post u.2.2.1 u)) (le, bl, bc, th, tn_I co, tn_I ca, cl, up, wa, tn_I en, tn_I bw, tn_I pr, av, tn_I ln, tn_I nd, pa, be) (nI e) (nI b) (nI (m / 8)) (nI (m % 8)) (-1) → wpY_quote post (le, bl, bc, th, tn_I co, tn_I ca, cl, up, wa, tn_I en, tn_I bw, tn_I pr, av, tn_I ln, tn_I nd, pa, be) (nI e) (nI b) (nI m) := by
      intro post h
      unfold wpY_quote
      dsimp only
      rw [tn_r8 (show m < 2 ^ 31 by omega), tn_d8 (show m < 2 ^ 31 by omega)]
      exact tn_y_ge (fun _ => br_t rfl (tn_y_in 1 100 (by decide) (by decide) (fun _ => tn_y_tm (fun _ => br_t rfl ⟨tn_8, tn_8, h⟩) (fun z => absurd g5 z)) (fun z => absurd g4 z))) (fun z => absurd g3 z)
    refine pk_le 1000000 (kk (e / 6)) (fun z => YY _ ?_) (fun z => ⟨tn_8, YY _ ?_⟩) rfl rfl (by omega) (by omega)
    · refine tn_y_best he hb1 hb2 (by omega) fpr hM.1 hM.2.1 fca fbw fco fun le' bl' bc' pa' be' => ⟨fun _ _ => br_t rfl ⟨rfl, _, _, _, _, _, _, _, _, _, _, _, _, _, _, _, _, _, _, _, _, _, _, _, rfl, rfl, hF, hM, hO, hN, hS, hT⟩, fun b2 n2 B2 _ _ _ => ?_⟩
      have := tn_VA_rk K he (fun c _ => fco c) B2.1 B2.2.2.1
      omega
    · obtain ⟨b1, n1, B, ekk⟩ := tn_RK_best K he he2 z
      have b5 := B.1
      refine tn_y_best he hb1 hb2 (by omega) fpr hM.1 hM.2.1 fca fbw fco fun le' bl' bc' pa' be' => ⟨fun _ hno => absurd B.2.2.1 (hno b1 n1 B.1 B.2.1), fun b2 n2 B2 hbl hbc hbe => br_f (by decide) ?_⟩
      obtain ⟨q1, q2⟩ := tn_BE_uniq B B2
      subst q1; subst q2
      refine ⟨?_, _, _, _, _, _, _, _, _, _, _, _, _, _, _, _, _, _, _, _, _, _, _, _, rfl, rfl, hF, hM, hO, hN, hS, hT⟩
      show bc' = nI (kk (e / 6)) / 8
      rw [hbc, tn_d8 (by omega)]
      exact congrArg nI (by omega)
  · have YB : wpY_quote (fun r' v' => r' = -1 ∧ i_Rel (k + 5) (fl, th, up, tn_I co, tn_I ca, cl, st, tn_I en, tn_I bw, tn_I pr, av, tl, tn_I nd, tn_I ln, op, rk, fn) v') (le, bl, bc, th, tn_I co, tn_I ca, cl, up, wa, tn_I en, tn_I bw, tn_I pr, av, tn_I ln, tn_I nd, pa, be) v1 v2 v3 := by
      unfold wpY_quote
      dsimp only
      exact tn_y_ge (fun g3 => br_t rfl (tn_y_in 1 100 (by decide) (by decide) (fun g4 => tn_y_tm (fun g5 => absurd ⟨g3, g4, g5⟩ g) (fun _ => br_f (by decide) ⟨rfl, I0⟩)) (fun _ => ⟨rfl, I0⟩))) (fun _ => br_f (by decide) ⟨rfl, I0⟩)
    unfold wpX_quote
    dsimp only
    exact tn_x_of (fun z => absurd z g) (fun _ => br_t rfl YB)
/-- the widest path: which x fit, up to (b, n) -/
def tn_FB (E : Nat → Nat → Prop) (e b n x : Nat) : Prop := ∃ b' n', b' < 5 ∧ n' < 6 ^ b' ∧ tn_BF b n b' n' ∧ tn_VA (E x) e b' n'
def tn_MW (E : Nat → Nat → Prop) (e b n w : Nat) : Prop := w ≤ 100 ∧ ∀ x, 1 ≤ x → (tn_FB E e b n x ↔ x ≤ w)
theorem tn_MW_uniq {E : Nat → Nat → Prop} {e b n w w' : Nat} (h : tn_MW E e b n w) (h' : tn_MW E e b n w') : w = w' := by
  rcases Nat.lt_trichotomy w w' with z | z | z
  · have := (h.2 w' (by omega)).1 ((h'.2 w' (by omega)).2 (Nat.le_refl _))
    omega
  · exact z
  · have := (h'.2 w (by omega)).1 ((h.2 w (by omega)).2 (Nat.le_refl _))
    omega
theorem tn_MW_ex {E : Nat → Nat → Prop} {e : Nat} (hm : ∀ x y c, x ≤ y → E y c → E x c) (h1 : ∀ x c, E x c → x ≤ 100) : ∃ w, tn_MW E e 5 0 w := by
  have f100 : ∀ x, tn_FB E e 5 0 x → x ≤ 100 := fun x ⟨b, n, _, _, _, V⟩ => h1 x _ (V.2 0 (by omega))
  have mono : ∀ x y, x ≤ y → tn_FB E e 5 0 y → tn_FB E e 5 0 x := fun x y l ⟨b, n, a1, a2, a3, V⟩ => ⟨b, n, a1, a2, a3, V.1, fun i hi => hm x y _ l (V.2 i hi)⟩
  have key : ∀ i, i ≤ 100 → (∀ x, 100 - i < x → ¬ tn_FB E e 5 0 x) ∨ ∃ w, tn_MW E e 5 0 w := by
    intro i
    induction i with
    | zero => exact fun _ => Or.inl fun x hx f => by have := f100 x f; omega
    | succ i ih =>
      intro hi
      rcases ih (by omega) with I | I
      · rcases Classical.em (tn_FB E e 5 0 (100 - i)) with y | y
        · refine Or.inr ⟨100 - i, by omega, fun x hx => ⟨fun f => Nat.le_of_not_lt fun l => I x (by omega) f, fun l => mono x _ l y⟩⟩
        · refine Or.inl fun x hx => ?_
          by_cases z : x = 100 - i
          · subst z; exact y
          · exact I x (by omega)
      · exact Or.inr I
  rcases key 100 (Nat.le_refl _) with I | I
  · exact ⟨0, by omega, fun x hx => ⟨fun f => absurd f (I x (by omega)), fun l => by omega⟩⟩
  · exact I
theorem tn_MW_0 {E : Nat → Nat → Prop} {e : Nat} : tn_MW E e 0 0 0 := ⟨by omega, fun x hx => ⟨fun ⟨b', n', _, _, a, _⟩ => by unfold tn_BF at a; omega, fun l => by omega⟩⟩
theorem tn_MW_b {E : Nat → Nat → Prop} {e b w : Nat} (h : tn_MW E e b (6 ^ b) w) : tn_MW E e (b + 1) 0 w := by
  refine ⟨h.1, fun x hx => ?_⟩
  rw [← h.2 x hx]
  constructor
  · rintro ⟨b', n', a1, a2, a3, a4⟩
    refine ⟨b', n', a1, a2, ?_, a4⟩
    rcases a3 with a3 | a3
    · by_cases z : b' = b
      · subst z; exact Or.inr ⟨rfl, a2⟩
      · exact Or.inl (by omega)
    · omega
  · rintro ⟨b', n', a1, a2, a3, a4⟩
    refine ⟨b', n', a1, a2, ?_, a4⟩
    unfold tn_BF at *
    omega
theorem tn_FB_s {E : Nat → Nat → Prop} {e b n x : Nat} (hb : b < 5) (hn : n < 6 ^ b) : tn_FB E e b (n + 1) x ↔ tn_FB E e b n x ∨ tn_VA (E x) e b n := by
  constructor
  · rintro ⟨b', n', a1, a2, a3, a4⟩
    rcases tn_BF_s a3 with z | ⟨rfl, rfl⟩
    · exact Or.inl ⟨b', n', a1, a2, z, a4⟩
    · exact Or.inr a4
  · rintro (⟨b', n', a1, a2, a3, a4⟩ | a)
    · refine ⟨b', n', a1, a2, ?_, a4⟩
      unfold tn_BF at *
      omega
    · refine ⟨b, n, hb, hn, ?_, a⟩
      unfold tn_BF
      omega
