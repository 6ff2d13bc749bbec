/-! improve -/
section
variable {fl le bl bc : Int32} {th up cl av st wa op rk fn pa be : Nat → Int32} {co ca en bw pr ln nd : Nat → Nat} {tl : Nat → Int64}
/-- after a settling a placed tunnel's own path fits -/
theorem tn_own {t : Nat} (hF : tn_FX th wa co ca en bw pr) (hM : tn_MV wa en ln nd) (hO : tn_OK th up cl av ln nd) (hN : ∀ c, c < 36 → ¬ tn_OL th ca bw ln nd c) (ht : t < 8) (hl : ln t ≠ 0) : ∃ b n, b < 5 ∧ n < 6 ^ b ∧ tn_VA (tn_Et th up cl av ca bw pr ln nd t) (en t) b n := by
  obtain ⟨b, n, hb, hn, hD, e, h⟩ := hM.2.2.2 t ht hl
  refine ⟨b, n, hb, hn, hD, fun i hi => ?_⟩
  have c36 : tn_cd (tn_pt (en t) b n i) (tn_pt (en t) b n (i + 1)) < 36 := tn_cd_lt (tn_pt_lt (hF.2.2.2.1 t)) (tn_pt_lt (hF.2.2.2.1 t))
  have v : tn_ov ln nd t (tn_cd (tn_pt (en t) b n i) (tn_pt (en t) b n (i + 1))) := ⟨i, by omega, by rw [Nat.add_assoc, h i (by omega), h (i + 1) (by omega)]⟩
  have o := hO t _ ht c36 v
  have a : tn_tk bw pr ln nd (nI t) (pr t) (tn_cd (tn_pt (en t) b n i) (tn_pt (en t) b n (i + 1))) + bw t ≤ tn_ld bw ln nd (tn_cd (tn_pt (en t) b n i) (tn_pt (en t) b n (i + 1))) := by
    refine tn_sm_add (a := t) (fun s _ => tn_q_mono fun y => y.2.2) ht ?_
    rw [tn_q_f (fun y => y.1 rfl), tn_q_t v]
    omega
  refine ⟨c36, o, ?_⟩
  rcases Nat.lt_or_ge (ca (tn_cd (tn_pt (en t) b n i) (tn_pt (en t) b n (i + 1)))) (tn_ld bw ln nd (tn_cd (tn_pt (en t) b n i) (tn_pt (en t) b n (i + 1)))) with l | l
  · exact absurd ⟨o.1, l⟩ (hN _ c36)
  · omega
def tn_SM (ln nd : Nat → Nat) (t L : Nat) (f : Nat → Nat) : Prop := ln t = L ∧ ∀ i, i < L → nd (6 * t + i) = f i
theorem tn_x_on {post : Int32 → Prop} {t L : Nat} {f : Nat → Nat} (ht : t < 8) (hL : L ≤ 6) (hl : ∀ t, ln t ≤ 6) (hn : ∀ i, nd i < 6) (hf : ∀ i, i < L → f i < 6) (ef : ∀ i, i < L → fn i = nI (f i)) (h1 : tn_SM ln nd t L f → post 1) (h0 : ¬ tn_SM ln nd t L f → post 0) : wpX_isOnFoundPath post (nI L, th, up, tn_I co, tn_I ca, cl, st, tn_I en, tn_I bw, tn_I pr, av, tl, tn_I nd, tn_I ln, op, rk, fn) (nI t) := by
  have l6 := hl t
  have key : ln t = L → ∀ d i, i + d = L → (∀ j, j < i → nd (6 * t + j) = f j) → wX_isOnFoundPath_17 post (nI t) (nI L) th up (tn_I co) (tn_I ca) cl st (tn_I en) (tn_I bw) (tn_I pr) av tl (tn_I nd) (tn_I ln) op rk fn (d + 1) (nI i) := by
    intro eL d
    induction d with
    | zero =>
      intro i hi I
      have : i = L := by omega
      subst this
      exact br_c (fun _ => h1 ⟨eL, I⟩) (fun _ => br_t (Int32.le_refl _) (h1 ⟨eL, I⟩))
    | succ d ih =>
      intro i hi I
      refine br_f (tn_i6 (by omega)) (br_f (nI_ge (by omega) (by omega)) ?_)
      rw [tn_6ab, nI_clamp (show 6 * t + i < 2 ^ 31 by omega), nI_clamp (show i < 2 ^ 31 by omega)]
      have n6 := hn (6 * t + i)
      have f6 := hf i (by omega)
      refine ⟨tn_v48 (by omega), tn_v6 (by omega), pk_eq (nd (6 * t + i)) (f i) (fun z => nm_r (nI_1 i) (ih (i + 1) (by omega) fun j hj => ?_)) (fun z => h0 fun y => z (y.2 i (by omega))) rfl (ef i (by omega)) (by omega) (by omega)⟩
      by_cases y : j = i
      · subst y; exact z
      · exact I j (by omega)
  refine ⟨tn_v8 ht, ?_⟩
  rw [tn_cl (tn_I ln) (by omega)]
  exact pk_eq (ln t) L (fun z => ⟨L + 1, key z L 0 (by omega) (fun j hj => absurd hj (Nat.not_lt_zero j))⟩) (fun z => h0 fun y => z y.1)
theorem tn_y_on {post : Int32 → Prop} {t L : Nat} {f : Nat → Nat} (ht : t < 8) (hL : L ≤ 6) (hl : ∀ t, ln t ≤ 6) (hn : ∀ i, nd i < 6) (hf : ∀ i, i < L → f i < 6) (ef : ∀ i, i < L → be i = nI (f i)) (h1 : tn_SM ln nd t L f → post 1) (h0 : ¬ tn_SM ln nd t L f → post 0) : wpY_isOnBest post (le, nI L, bc, th, tn_I co, tn_I ca, cl, up, wa, tn_I en, tn_I bw, tn_I pr, av, tn_I ln, tn_I nd, pa, be) (nI t) := by
  have l6 := hl t
  have key : ln t = L → ∀ d i, i + d = L → (∀ j, j < i → nd (6 * t + j) = f j) → wY_isOnBest_17 post (nI t) le (nI L) bc th (tn_I co) (tn_I ca) cl up wa (tn_I en) (tn_I bw) (tn_I pr) av (tn_I ln) (tn_I nd) pa be (d + 1) (nI i) := by
    intro eL d
    induction d with
    | zero =>
      intro i hi I
      have : i = L := by omega
      subst this
      exact br_t (Int32.le_refl _) (h1 ⟨eL, I⟩)
    | succ d ih =>
      intro i hi I
      refine br_f (nI_ge (by omega) (by omega)) ?_
      rw [tn_6ab, nI_clamp (show 6 * t + i < 2 ^ 31 by omega), nI_clamp (show i < 2 ^ 31 by omega)]
      have n6 := hn (6 * t + i)
      have f6 := hf i (by omega)
      refine ⟨tn_v48 (by omega), tn_v6 (by omega), pk_eq (nd (6 * t + i)) (f i) (fun z => nm_r (nI_1 i) (ih (i + 1) (by omega) fun j hj => ?_)) (fun z => h0 fun y => z (y.2 i (by omega))) rfl (ef i (by omega)) (by omega) (by omega)⟩
      by_cases y : j = i
      · subst y; exact z
      · exact I j (by omega)
  refine ⟨tn_v8 ht, ?_⟩
  rw [tn_cl (tn_I ln) (by omega)]
  exact pk_eq (ln t) L (fun z => ⟨L + 1, key z L 0 (by omega) (fun j hj => absurd hj (Nat.not_lt_zero j))⟩) (fun z => h0 fun y => z y.1)
end
theorem i_vc_improve {k : Nat} {u : SX} {v : SY} (I : i_Rel k u v) (hk : k + 5 ≤ 2560) (v1 : Int32) : wpX_improve (fun r u' => wpY_improve (fun r' v' => r' = r ∧ i_Rel (k + 5) u' v') v v1) u v1 := by
  have I0 := I
  obtain ⟨fl, le, bl, bc, th, up, cl, av, st, wa, op, rk, fn, pa, be, co, ca, en, bw, pr, ln, nd, tl, rfl, rfl, hF, hM, hO, hN, hS, hT⟩ := I
  rcases Classical.em (tn_in v1 0 7) with g1 | g
  · obtain ⟨t, -, ht, rfl⟩ := id g1
    have t8 : t < 8 := by omega
    have cc : (nI t).toNatClampNeg = t := nI_clamp (by omega)
    have vc := tn_v8 t8
    have l6 := hM.1 t
    by_cases zw : wa t = 0
    · unfold wpX_improve wpY_improve
      dsimp only
      rw [cc]
      exact tn_x_tn (fun _ => br_f (by decide) ⟨vc, br_t ((tn_SX_0 hS t8).2 zw) (tn_y_tn (fun _ => br_t rfl ⟨vc, br_t zw ⟨rfl, I0⟩⟩) (fun z => absurd g1 z))⟩) (fun z => absurd g1 z)
    · by_cases zl : ln t = 0
      · unfold wpX_improve wpY_improve
        dsimp only
        rw [cc]
        exact tn_x_tn (fun _ => br_f (by decide) ⟨vc, br_f (fun y => zw ((tn_SX_0 hS t8).1 y)) ⟨vc, br_f (fun y => (tn_SX_2 hS hM t8).1 y zl) (tn_y_tn (fun _ => br_t rfl ⟨vc, br_f zw ⟨vc, br_t (congrArg nI zl) ⟨rfl, I0⟩⟩⟩) (fun z => absurd g1 z))⟩⟩) (fun z => absurd g1 z)
      · obtain ⟨fTH, fco, fca, fen, fbw, fpr, fwa⟩ := id hF
        obtain ⟨e1, e2⟩ := fwa t zw
        have p3 := fpr t
        obtain ⟨b0, n0, hb0, hn0, hV0⟩ := tn_own hF hM hO hN t8 zl
        obtain ⟨b, n, B⟩ := tn_BE_ex (co := co) hb0 hn0 hV0
        have b5 := B.1
        have f6 : ∀ i, i < b + 2 → tn_pt (en t) b n i < 6 := fun i _ => tn_pt_lt (fen t)
        have M2 := tn_MV_put (k := t) (b := b) (n := n) hM fen zw B.1 B.2.1 B.2.2.1.1
        obtain ⟨ln', nd', M', O', N', X', Y'⟩ := tn_settle (up := up) (cl := cl) (av := av) hF M2
        have YY : ∀ post : Int32 → SY → Prop, (∀ (le' bc' : Int32) (pa' be' : Nat → Int32), (∀ i, i < b + 2 → be' i = nI (tn_pt (en t) b n i)) →
            wpY_isOnBest (fun r => (r = 0 → wpY_place (fun u => wpY_settle (fun _ u => post 1 u) u) (le', nI (b + 2), bc', th, tn_I co, tn_I ca, cl, up, wa, tn_I en, tn_I bw, tn_I pr, av, tn_I ln, tn_I nd, pa', be') (nI t)) ∧ (¬ r = 0 → post 0 (le', nI (b + 2), bc', th, tn_I co, tn_I ca, cl, up, wa, tn_I en, tn_I bw, tn_I pr, av, tn_I ln, tn_I nd, pa', be'))) (le', nI (b + 2), bc', th, tn_I co, tn_I ca, cl, up, wa, tn_I en, tn_I bw, tn_I pr, av, tn_I ln, tn_I nd, pa', be') (nI t)) → wpY_improve post (le, bl, bc, th, tn_I co, tn_I ca, cl, up, wa, tn_I en, tn_I bw, tn_I pr, av, tn_I ln, tn_I nd, pa, be) (nI t) := by
          intro post h
          unfold wpY_improve
          dsimp only
          rw [cc]
          refine tn_y_tn (fun _ => br_t rfl ⟨vc, br_f zw ⟨vc, br_f (nI_ne0 (by omega) (by omega)) ⟨vc, vc, vc, vc, ?_⟩⟩⟩) (fun z => absurd g1 z)
          refine tn_y_best (fen t) e2 (fbw t) (by omega) fpr hM.1 hM.2.1 fca fbw fco fun le' bl' bc' pa' be' => ⟨fun _ hno => absurd hV0 (hno b0 n0 hb0 hn0), fun b2 n2 B2 hbl hbc hbe => ?_⟩
          obtain ⟨q1, q2⟩ := tn_BE_uniq B B2
          subst q1; subst q2; subst hbl
          exact h le' bc' pa' be' hbe
        unfold wpX_improve
        dsimp only
        rw [cc]
        refine tn_x_tn (fun _ => br_f (by decide) ⟨vc, br_f (fun y => zw ((tn_SX_0 hS t8).1 y)) ⟨vc, br_t ((tn_SX_2 hS hM t8).2 zl) ?_⟩⟩) (fun z => absurd g1 z)
        refine tn_x_fit t8 fTH fpr fca fbw e2 fco fen hT fun op' rk' kk hop ek K => ⟨fun fit => br_f (by decide) ?_, fun fit => absurd (tn_VA_rk K (fen t) (fun c _ => fco c) hb0 hV0) fit⟩
        refine tn_x_trace t8 fen fbw hop fco ek K fit fun fn' f m hm5 R hg ef => ?_
        obtain ⟨b2, n2, hm, B2, hp', -⟩ := tn_TR_best K (fen t) e1 R hg
        obtain ⟨q1, q2⟩ := tn_BE_uniq B B2
        subst q1; subst q2; subst hm
        have ef' : ∀ i, i < b + 2 → fn' i = nI (tn_pt (en t) b n i) := fun i hi => by rw [ef i (by omega), hp' i (by omega)]
        refine tn_x_on (L := b + 2) (f := tn_pt (en t) b n) t8 (by omega) hM.1 hM.2.1 f6 ef' (fun S => br_f (by decide) ?_) (fun S => br_t rfl ?_)
        · refine YY _ fun le' bc' pa' be' hbe => tn_y_on t8 (by omega) hM.1 hM.2.1 f6 hbe (fun _ => br_f (by decide) ?_) (fun z => absurd S z)
          exact ⟨rfl, _, _, _, _, _, _, _, _, _, _, _, _, _, _, _, _, _, _, _, _, _, _, _, rfl, rfl, hF, hM, hO, hN, hS, hT⟩
        · refine tn_x_place (L := b + 2) (f := tn_pt (en t) b n) t8 (by omega) hM.1 f6 ef' hT fun st' tl' T' s1 s2 => ?_
          refine X' _ _ st' tl' op' rk' fn' (tn_SX_put hS zw (by omega) s1 s2) T' fun fl2 st2 tl2 op2 rk2 fn2 S2 T2 => ?_
          refine YY _ fun le' bc' pa' be' hbe => tn_y_on t8 (by omega) hM.1 hM.2.1 f6 hbe (fun z => absurd z S) (fun _ => br_t rfl ?_)
          refine tn_y_place (L := b + 2) (f := tn_pt (en t) b n) t8 (by omega) hbe ?_
          refine Y' _ le' _ bc' pa' be' fun le2 bl2 bc2 pa2 be2 => ?_
          exact ⟨rfl, _, _, _, _, _, _, _, _, _, _, _, _, _, _, _, _, _, _, _, _, _, _, _, rfl, rfl, hF, M', O', N', S2, T2⟩
  · unfold wpX_improve wpY_improve
    dsimp only
    exact tn_x_tn (fun g1 => absurd g1 g) (fun _ => br_t rfl (tn_y_tn (fun g1 => absurd g1 g) (fun _ => br_f (by decide) ⟨rfl, I0⟩)))
