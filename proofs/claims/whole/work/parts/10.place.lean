/-! the first tunnel that fits is placed -/
def tn_FX (th wa : Nat → Int32) (co ca en bw pr : Nat → Nat) : Prop := tn_TH th ∧ (∀ c, co c ≤ 20) ∧ (∀ c, ca c ≤ 100) ∧ (∀ t, en t < 36) ∧ (∀ t, bw t ≤ 100) ∧ (∀ t, pr t ≤ 3) ∧ ∀ t, wa t ≠ 0 → en t / 6 ≠ en t % 6 ∧ 1 ≤ bw t
abbrev tn_Et (th up cl av : Nat → Int32) (ca bw pr ln nd : Nat → Nat) (t : Nat) : Nat → Prop := tn_EU th up cl (av t) ca bw pr ln nd (nI t) (pr t) (bw t)
def tn_CA (th up cl av wa : Nat → Int32) (en ca bw pr ln nd : Nat → Nat) (k : Nat) : Prop :=
  wa (k % 8) ≠ 0 ∧ ln (k % 8) = 0 ∧ pr (k % 8) = k / 8 ∧ ∃ b n, b < 5 ∧ n < 6 ^ b ∧ tn_VA (tn_Et th up cl av ca bw pr ln nd (k % 8)) (en (k % 8)) b n
section
variable {fl le bl bc : Int32} {th up cl av st wa op rk fn pa be : Nat → Int32} {co ca en bw pr ln nd : Nat → Nat} {tl : Nat → Int64}
theorem tn_SX_put {t L : Nat} {st' : Nat → Int32} (h : tn_SX st wa ln) (hw : wa t ≠ 0) (hL : L ≠ 0) (h1 : ∀ s, s ≠ t → st' s = st s) (h2 : st' t = 2) : tn_SX st' wa (tn_up ln t L) := by
  intro s hs
  by_cases z : s = t
  · subst z
    rw [tn_up_s]
    exact ⟨fun y => absurd y hw, fun _ y => absurd y hL, fun _ _ => h2⟩
  · rw [tn_up_n z, h1 s z]
    exact h s hs
theorem tn_x_pff {post : Int32 → SX → Prop} (hF : tn_FX th wa co ca en bw pr) (hM : tn_MV wa en ln nd) (hS : tn_SX st wa ln) (hT : tn_TL tl ln nd)
    (h0 : (∀ k, k < 32 → ¬ tn_CA th up cl av wa en ca bw pr ln nd k) → ∀ (op' rk' : Nat → Int32), post 0 (fl, th, up, tn_I co, tn_I ca, cl, st, tn_I en, tn_I bw, tn_I pr, av, tl, tn_I nd, tn_I ln, op', rk', fn))
    (h1 : ∀ k b n, k < 32 → (∀ j, j < k → ¬ tn_CA th up cl av wa en ca bw pr ln nd j) → tn_CA th up cl av wa en ca bw pr ln nd k → tn_BE (tn_Et th up cl av ca bw pr ln nd (k % 8)) co (en (k % 8)) b n →
      ∀ (fl' : Int32) (st' : Nat → Int32) (tl' : Nat → Int64) (op' rk' fn' : Nat → Int32), tn_SX st' wa (tn_up ln (k % 8) (b + 2)) → tn_TL tl' (tn_up ln (k % 8) (b + 2)) (tn_pl nd (k % 8) (b + 2) (tn_pt (en (k % 8)) b n)) →
        post 1 (fl', th, up, tn_I co, tn_I ca, cl, st', tn_I en, tn_I bw, tn_I pr, av, tl', tn_I (tn_pl nd (k % 8) (b + 2) (tn_pt (en (k % 8)) b n)), tn_I (tn_up ln (k % 8) (b + 2)), op', rk', fn')) : wpX_placeFirstFit post (fl, th, up, tn_I co, tn_I ca, cl, st, tn_I en, tn_I bw, tn_I pr, av, tl, tn_I nd, tn_I ln, op, rk, fn) := by
  obtain ⟨fTH, fco, fca, fen, fbw, fpr, fwa⟩ := hF
  have inner : ∀ (J : Int32 → Int32 → (Nat → Int32) → (Nat → Int32) → (Nat → Int32) → (Nat → Int32) → (Nat → Int32) → (Nat → Int32) → (Nat → Int32) → (Nat → Int32) → (Nat → Int32) → (Nat → Int32) → (Nat → Int64) → (Nat → Int32) → (Nat → Int32) → (Nat → Int32) → (Nat → Int32) → (Nat → Int32) → Prop) (p : Nat), p < 4 →
      ((∀ k, k < 8 * (p + 1) → ¬ tn_CA th up cl av wa en ca bw pr ln nd k) → ∀ (op rk : Nat → Int32), J (nI (p + 1)) fl th up (tn_I co) (tn_I ca) cl st (tn_I en) (tn_I bw) (tn_I pr) av tl (tn_I nd) (tn_I ln) op rk fn) →
      ∀ d t (op rk : Nat → Int32), t + d = 8 → (∀ k, k < 8 * p + t → ¬ tn_CA th up cl av wa en ca bw pr ln nd k) → wX_placeFirstFit_9 post J (nI p) (d + 1) (nI t) fl th up (tn_I co) (tn_I ca) cl st (tn_I en) (tn_I bw) (tn_I pr) av tl (tn_I nd) (tn_I ln) op rk fn := by
    intro J p hp hJ d
    induction d with
    | zero =>
      intro t op rk ht I
      have : t = 8 := by omega
      subst this
      exact br_t (by decide) (nm_r (nI_1 p) (hJ (fun k hk => I k (by omega)) op rk))
    | succ d ih =>
      intro t op rk ht I
      have ht8 : t < 8 := by omega
      have em : (8 * p + t) % 8 = t := by omega
      have ed : (8 * p + t) / 8 = p := by omega
      have nx : ∀ op rk : Nat → Int32, ¬ tn_CA th up cl av wa en ca bw pr ln nd (8 * p + t) → wX_placeFirstFit_9 post J (nI p) (d + 1) (nI (t + 1)) fl th up (tn_I co) (tn_I ca) cl st (tn_I en) (tn_I bw) (tn_I pr) av tl (tn_I nd) (tn_I ln) op rk fn := fun op rk z => ih (t + 1) op rk (by omega) fun k hk => by
        by_cases y : k = 8 * p + t
        · subst y; exact z
        · exact I k (by omega)
      have S := hS t ht8
      have p3 := fpr t
      have v := tn_v8 ht8
      rw [wX_placeFirstFit_9]
      refine br_f (tn_i8 ht8) ⟨v, ?_⟩
      rw [nI_clamp (show t < 2 ^ 31 by omega)]
      refine br_c (fun z => ⟨v, pk_eq (pr t) p (fun zp => ?_) (fun zp => nm_r (nI_1 t) (nx op rk fun y => zp (by have := y.2.2.1; rw [em, ed] at this; exact this)))⟩) (fun z => nm_r (nI_1 t) (nx op rk fun y => z (S.2.1 (by have := y.1; rw [em] at this; exact this) (by have := y.2.1; rw [em] at this; exact this))))
      have w0 : wa t ≠ 0 := fun y => by rw [S.1 y] at z; exact absurd z (by decide)
      have l0 : ln t = 0 := Classical.byContradiction fun y => by rw [S.2.2 w0 y] at z; exact absurd z (by decide)
      obtain ⟨e1, e2⟩ := fwa t w0
      have t36 := fen t
      refine tn_x_fit ht8 fTH fpr fca fbw e2 fco fen hT fun op' rk' k hop ek K => ⟨fun fit => br_f (by decide) ?_, fun fit => br_t rfl (nm_r (nI_1 t) (nx op' rk' fun y => fit ?_))⟩
      · refine tn_x_trace ht8 fen fbw hop fco ek K fit fun fn' f m hm5 R hg ef => ?_
        obtain ⟨b, n, hm, B, hp', -⟩ := tn_TR_best K (fen t) e1 R hg
        subst hm
        refine tn_x_place (L := b + 1 + 1) (f := f) ht8 (by omega) hM.1 (fun i hi => R.2.1 i (by omega)) (fun i hi => ef i (by omega)) hT fun st' tl' T' s1 s2 => ?_
        have ep : tn_pl nd t (b + 1 + 1) f = tn_pl nd t (b + 2) (tn_pt (en t) b n) := tn_pl_eq fun i hi => hp' i (by omega)
        have C : tn_CA th up cl av wa en ca bw pr ln nd (8 * p + t) := by
          unfold tn_CA
          rw [em, ed]
          exact ⟨w0, l0, zp, b, n, B.1, B.2.1, B.2.2.1⟩
        have q := h1 (8 * p + t) b n (by omega) I C
        rw [em] at q
        rw [ep] at T' ⊢
        exact q B _ st' tl' op' rk' fn' (tn_SX_put hS w0 (by omega) s1 s2) T'
      · obtain ⟨-, -, -, b, n, y1, y2, y3⟩ := y
        rw [em] at y3
        exact tn_VA_rk K t36 (fun c _ => fco c) y1 y3
  have outer : ∀ d p (op rk : Nat → Int32), p + d = 4 → (∀ k, k < 8 * p → ¬ tn_CA th up cl av wa en ca bw pr ln nd k) → wX_placeFirstFit_2 post (d + 1) (nI p) fl th up (tn_I co) (tn_I ca) cl st (tn_I en) (tn_I bw) (tn_I pr) av tl (tn_I nd) (tn_I ln) op rk fn := by
    intro d
    induction d with
    | zero =>
      intro p op rk hp I
      have : p = 4 := by omega
      subst this
      exact br_t (by decide) (h0 I op rk)
    | succ d ih =>
      intro p op rk hp I
      exact br_f (nI_ge (b := 4) (by omega) (by decide)) ⟨9, inner _ p (by omega) (fun I' op rk => ih (p + 1) op rk (by omega) I') 8 0 op rk (by omega) I⟩
  exact ⟨5, outer 4 0 op rk (by omega) (fun k hk => absurd hk (by omega))⟩
theorem tn_y_one {post : Int32 → SY → Prop} (hF : tn_FX th wa co ca en bw pr) (hM : tn_MV wa en ln nd)
    (h0 : (∀ k, k < 32 → ¬ tn_CA th up cl av wa en ca bw pr ln nd k) → ∀ (le' bl' bc' : Int32) (pa' be' : Nat → Int32), post 0 (le', bl', bc', th, tn_I co, tn_I ca, cl, up, wa, tn_I en, tn_I bw, tn_I pr, av, tn_I ln, tn_I nd, pa', be'))
    (h1 : ∀ k b n, k < 32 → (∀ j, j < k → ¬ tn_CA th up cl av wa en ca bw pr ln nd j) → tn_CA th up cl av wa en ca bw pr ln nd k → tn_BE (tn_Et th up cl av ca bw pr ln nd (k % 8)) co (en (k % 8)) b n →
      ∀ (le' bl' bc' : Int32) (pa' be' : Nat → Int32), post 1 (le', bl', bc', th, tn_I co, tn_I ca, cl, up, wa, tn_I en, tn_I bw, tn_I pr, av, tn_I (tn_up ln (k % 8) (b + 2)), tn_I (tn_pl nd (k % 8) (b + 2) (tn_pt (en (k % 8)) b n)), pa', be')) : wpY_placeOne post (le, bl, bc, th, tn_I co, tn_I ca, cl, up, wa, tn_I en, tn_I bw, tn_I pr, av, tn_I ln, tn_I nd, pa, be) := by
  obtain ⟨fTH, fco, fca, fen, fbw, fpr, fwa⟩ := hF
  have key : ∀ d k (le bl bc : Int32) (pa be : Nat → Int32), k + d = 32 → (∀ j, j < k → ¬ tn_CA th up cl av wa en ca bw pr ln nd j) → wY_placeOne_2 post (d + 1) (nI k) le bl bc th (tn_I co) (tn_I ca) cl up wa (tn_I en) (tn_I bw) (tn_I pr) av (tn_I ln) (tn_I nd) pa be := by
    intro d
    induction d with
    | zero =>
      intro k le bl bc pa be hk I
      have : k = 32 := by omega
      subst this
      exact br_t (by decide) (h0 I le bl bc pa be)
    | succ d ih =>
      intro k le bl bc pa be hk I
      have nx : ∀ (le bl bc : Int32) (pa be : Nat → Int32), ¬ tn_CA th up cl av wa en ca bw pr ln nd k → wY_placeOne_2 post (d + 1) (nI (k + 1)) le bl bc th (tn_I co) (tn_I ca) cl up wa (tn_I en) (tn_I bw) (tn_I pr) av (tn_I ln) (tn_I nd) pa be := fun le bl bc pa be z => ih (k + 1) le bl bc pa be (by omega) fun j hj => by
        by_cases y : j = k
        · subst y; exact z
        · exact I j (by omega)
      have m8 : k % 8 < 8 := by omega
      have v := tn_v8 m8
      have l6 := hM.1 (k % 8)
      have p3 := fpr (k % 8)
      have e36 := fen (k % 8)
      have b100 := fbw (k % 8)
      rw [wY_placeOne_2]
      refine br_f (nI_ge (b := 32) (by omega) (by decide)) ⟨tn_8, nm_r (tn_r8 (by omega)) ⟨v, ?_⟩⟩
      rw [nI_clamp (show k % 8 < 2 ^ 31 by omega), tn_d8 (show k < 2 ^ 31 by omega)]
      refine br_c (fun z => nm_r (nI_1 k) (nx le bl bc pa be fun y => y.1 z)) (fun z => ⟨v, pk_eq (ln (k % 8)) 0 (fun zl => ⟨v, tn_8, pk_eq (pr (k % 8)) (k / 8) (fun zp => ⟨v, v, tn_8, v, ?_⟩) (fun zp => nm_r (nI_1 k) (nx le bl bc pa be fun y => zp y.2.2.1))⟩) (fun zl => nm_r (nI_1 k) (nx le bl bc pa be fun y => zl y.2.1))⟩)
      obtain ⟨e1, e2⟩ := fwa _ z
      have E : tn_EU th up cl (av (k % 8)) ca bw pr ln nd (nI (k % 8)) (k / 8) (bw (k % 8)) = tn_Et th up cl av ca bw pr ln nd (k % 8) := by rw [← zp]
      refine tn_y_best e36 e2 b100 (by omega) fpr hM.1 hM.2.1 fca fbw fco fun le' bl' bc' pa' be' => ?_
      rw [E]
      refine ⟨fun hb0 hno => br_t rfl (nm_r (nI_1 k) (nx le' bl' bc' pa' be' fun y => ?_)), fun b n B hbl hbc hbe => br_f (by decide) ?_⟩
      · obtain ⟨-, -, -, b, n, y1, y2, y3⟩ := y
        exact hno b n y1 y2 y3
      · subst hbl
        have b5 := B.1
        exact tn_y_place (L := b + 2) (f := tn_pt (en (k % 8)) b n) m8 (by omega) hbe (h1 k b n (by omega) I ⟨z, zl, zp, b, n, B.1, B.2.1, B.2.2.1⟩ B le' _ bc' pa' be')
  exact ⟨33, key 32 0 le bl bc pa be (by omega) (fun j hj => absurd hj (Nat.not_lt_zero j))⟩
end
