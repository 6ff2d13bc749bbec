/-! want, release -/
section
variable {fl le bl bc : Int32} {th up cl av st wa op rk fn pa be : Nat → Int32} {co ca en bw pr ln nd : Nat → Nat} {tl : Nat → Int64}
theorem tn_nb1 : ¬ vp_nar .boolean 1 = 0 := by decide
theorem tn_nb0 : vp_nar .boolean 0 = 0 := by decide
theorem tn_FX_want {t e b p : Nat} (h : tn_FX th wa co ca en bw pr) (he : e < 36) (he2 : e / 6 ≠ e % 6) (hb1 : 1 ≤ b) (hb : b ≤ 100) (hp : p ≤ 3) : tn_FX th (upd wa t (vp_nar .boolean 1)) co ca (tn_up en t e) (tn_up bw t b) (tn_up pr t p) := by
  obtain ⟨h1, h2, h3, h4, h5, h6, h7⟩ := h
  refine ⟨h1, h2, h3, fun s => ?_, tn_up_le h5 hb, tn_up_le h6 hp, fun s hs => ?_⟩
  · by_cases z : s = t
    · subst z; rw [tn_up_s]; exact he
    · rw [tn_up_n z]; exact h4 s
  · by_cases z : s = t
    · subst z; rw [tn_up_s, tn_up_s]; exact ⟨he2, hb1⟩
    · rw [pk_un z] at hs; rw [tn_up_n z, tn_up_n z]; exact h7 s hs
theorem tn_MV_want {t e : Nat} {x : Int32} (h : tn_MV wa en ln nd) : tn_MV (upd wa t x) (tn_up en t e) (tn_up ln t 0) nd := by
  obtain ⟨h1, h2, h3, h4⟩ := h
  refine ⟨tn_up_le h1 (by omega), h2, fun s hs => ?_, fun s hs hl => ?_⟩
  · by_cases z : s = t
    · subst z; rw [tn_up_s] at hs; exact absurd rfl hs
    · rw [tn_up_n z] at hs; rw [pk_un z]; exact h3 s hs
  · by_cases z : s = t
    · subst z; rw [tn_up_s] at hl; exact absurd rfl hl
    · rw [tn_up_n z] at hl ⊢
      rw [tn_up_n z]
      exact h4 s hs hl
theorem tn_SX_want {t : Nat} (h : tn_SX st wa ln) : tn_SX (upd st t 1) (upd wa t (vp_nar .boolean 1)) (tn_up ln t 0) := by
  intro s hs
  by_cases z : s = t
  · subst z
    rw [pk_us, pk_us, tn_up_s]
    exact ⟨fun y => absurd y tn_nb1, fun _ _ => rfl, fun _ y => absurd rfl y⟩
  · rw [pk_un z, pk_un z, tn_up_n z]
    exact h s hs
theorem tn_SX_rel {t : Nat} (h : tn_SX st wa ln) : tn_SX (upd (upd st t 1) t 0) (upd wa t (vp_nar .boolean 0)) (tn_up ln t 0) := by
  intro s hs
  by_cases z : s = t
  · subst z
    rw [pk_us, pk_us, tn_up_s]
    exact ⟨fun _ => rfl, fun y => absurd tn_nb0 y, fun y => absurd tn_nb0 y⟩
  · rw [pk_un z, pk_un z, pk_un z, tn_up_n z]
    exact h s hs
theorem tn_up_id {f : Nat → Nat} {t : Nat} : tn_up f t (f t) = f := by
  funext j
  unfold tn_up
  split
  · rename_i h; rw [h]
  · rfl
theorem tn_FX_rel {t : Nat} (h : tn_FX th wa co ca en bw pr) : tn_FX th (upd wa t (vp_nar .boolean 0)) co ca en bw pr := by
  obtain ⟨h1, h2, h3, h4, h5, h6, h7⟩ := h
  refine ⟨h1, h2, h3, h4, h5, h6, fun s hs => ?_⟩
  by_cases z : s = t
  · subst z; rw [pk_us] at hs; exact absurd tn_nb0 hs
  · rw [pk_un z] at hs; exact h7 s hs
/-- the tunnel's state as X keeps it -/
theorem tn_SX_0 {t : Nat} (h : tn_SX st wa ln) (ht : t < 8) : st t = 0 ↔ wa t = 0 := by
  obtain ⟨a, b, c⟩ := h t ht
  refine ⟨fun z => Classical.byContradiction fun y => ?_, a⟩
  by_cases w : ln t = 0
  · rw [b y w] at z; exact absurd z (by decide)
  · rw [c y w] at z; exact absurd z (by decide)
theorem tn_SX_2 {t : Nat} (h : tn_SX st wa ln) (hM : tn_MV wa en ln nd) (ht : t < 8) : st t = 2 ↔ ln t ≠ 0 := by
  obtain ⟨a, b, c⟩ := h t ht
  refine ⟨fun z w => ?_, fun w => c (hM.2.2.1 t w) w⟩
  by_cases y : wa t = 0
  · rw [a y] at z; exact absurd z (by decide)
  · rw [b y w] at z; exact absurd z (by decide)
end
theorem i_vc_want {k : Nat} {u : SX} {v : SY} (I : i_Rel k u v) (hk : k + 5 ≤ 2560) (v1 : Int32) (v2 : Int32) (v3 : Int32) (v4 : Int32) : wpX_want (fun r u' => wpY_want (fun r' v' => r' = r ∧ i_Rel (k + 5) u' v') v v1 v2 v3 v4) u v1 v2 v3 v4 := by
  have I0 := I
  obtain ⟨fl, le, bl, bc, th, up, cl, av, st, wa, op, rk, fn, pa, be, co, ca, en, bw, pr, ln, nd, tl, rfl, rfl, hF, hM, hO, hN, hS, hT⟩ := I
  rcases Classical.em (tn_in v1 0 7 ∧ tn_of v2 v3 v4) with g | g
  · obtain ⟨g1, g2⟩ := g
    obtain ⟨g3, g4, g5⟩ := id g2
    obtain ⟨t, -, ht, rfl⟩ := id g1
    obtain ⟨e, he, he2, rfl⟩ := id g3
    obtain ⟨b, hb1, hb2, rfl⟩ := id g4
    obtain ⟨m, -, hm, rfl⟩ := id g5
    have cc : (nI t).toNatClampNeg = t := nI_clamp (by omega)
    have vc := tn_v8 (show t < 8 by omega)
    unfold wpX_want wpY_want
    dsimp only
    rw [cc, tn_r8 (show m < 2 ^ 31 by omega), tn_d8 (show m < 2 ^ 31 by omega)]
    refine tn_x_tn (fun _ => br_f (by decide) (tn_x_of (fun _ => br_f (by decide) ⟨vc, ?_⟩) (fun z => absurd g2 z))) (fun z => absurd g1 z)
    by_cases z : st t = 0
    · have zw := (tn_SX_0 hS (by omega)).1 z
      refine br_t z ⟨vc, nm_r (tn_up_I en t e) ⟨vc, nm_r (tn_up_I bw t b) ⟨tn_8, vc, nm_r (tn_up_I pr t (m / 8)) ⟨tn_8, vc, nm_e (tn_x_idle (by omega) ?_)⟩⟩⟩⟩
      have hF' := tn_FX_want (t := t) (p := m / 8) hF he he2 hb1 hb2 (by omega)
      obtain ⟨ln', nd', M', O', N', X', Y'⟩ := tn_settle (up := up) (cl := cl) (av := upd av t (nI (m % 8))) hF' (tn_MV_want (t := t) (e := e) (x := vp_nar .boolean 1) hM)
      refine X' _ fl _ _ op rk fn (tn_SX_want hS) (tn_TL_idle hT) fun fl2 st2 tl2 op2 rk2 fn2 S2 T2 => ⟨vc, ?_⟩
      have l6 := M'.1 t
      by_cases zz : ln' t = 0
      · refine br_f (fun y => (tn_SX_2 S2 M' (by omega)).1 y zz) ?_
        refine tn_y_tn (fun _ => br_t rfl (tn_y_ge (fun _ => br_t rfl (tn_y_in 1 100 (by decide) (by decide) (fun _ => tn_y_tm (fun _ => br_t rfl ⟨vc, br_t zw ⟨vc, nm_e ⟨vc, nm_r (tn_up_I en t e) ⟨vc, nm_r (tn_up_I bw t b) ⟨tn_8, vc, nm_r (tn_up_I pr t (m / 8)) ⟨tn_8, vc, nm_e ⟨vc, nm_r (tn_up_I ln t 0) ?_⟩⟩⟩⟩⟩⟩⟩) (fun z => absurd g5 z)) (fun z => absurd g4 z))) (fun z => absurd g3 z))) (fun z => absurd g1 z)
        refine Y' _ le bl bc pa be fun le2 bl2 bc2 pa2 be2 => ⟨vc, br_t ?_ ⟨rfl, _, _, _, _, _, _, _, _, _, _, _, _, _, _, _, _, _, _, _, _, _, _, _, rfl, rfl, hF', M', O', N', S2, T2⟩⟩
        show nI (ln' t) ≤ 0
        rw [zz]
        decide
      · refine br_t ((tn_SX_2 S2 M' (by omega)).2 zz) ?_
        refine tn_y_tn (fun _ => br_t rfl (tn_y_ge (fun _ => br_t rfl (tn_y_in 1 100 (by decide) (by decide) (fun _ => tn_y_tm (fun _ => br_t rfl ⟨vc, br_t zw ⟨vc, nm_e ⟨vc, nm_r (tn_up_I en t e) ⟨vc, nm_r (tn_up_I bw t b) ⟨tn_8, vc, nm_r (tn_up_I pr t (m / 8)) ⟨tn_8, vc, nm_e ⟨vc, nm_r (tn_up_I ln t 0) ?_⟩⟩⟩⟩⟩⟩⟩) (fun z => absurd g5 z)) (fun z => absurd g4 z))) (fun z => absurd g3 z))) (fun z => absurd g1 z)
        refine Y' _ le bl bc pa be fun le2 bl2 bc2 pa2 be2 => ⟨vc, br_f ?_ ⟨rfl, _, _, _, _, _, _, _, _, _, _, _, _, _, _, _, _, _, _, _, _, _, _, _, rfl, rfl, hF', M', O', N', S2, T2⟩⟩
        exact nI_nle (by omega) (by omega)
    · have zw : ¬ wa t = 0 := fun y => z ((tn_SX_0 hS (by omega)).2 y)
      refine br_f z ?_
      exact tn_y_tn (fun _ => br_t rfl (tn_y_ge (fun _ => br_t rfl (tn_y_in 1 100 (by decide) (by decide) (fun _ => tn_y_tm (fun _ => br_t rfl ⟨vc, br_f zw ⟨rfl, I0⟩⟩) (fun z => absurd g5 z)) (fun z => absurd g4 z))) (fun z => absurd g3 z))) (fun z => absurd g1 z)
  · have YB : wpY_want (fun r' v' => r' = -1 ∧ i_Rel (k + 5) (fl, th, up, tn_I co, tn_I ca, cl, st, tn_I en, tn_I bw, tn_I pr, av, tl, tn_I nd, tn_I ln, op, rk, fn) v') (le, bl, bc, th, tn_I co, tn_I ca, cl, up, wa, tn_I en, tn_I bw, tn_I pr, av, tn_I ln, tn_I nd, pa, be) v1 v2 v3 v4 := by
      unfold wpY_want
      dsimp only
      exact tn_y_tn (fun g1 => br_t rfl (tn_y_ge (fun g3 => br_t rfl (tn_y_in 1 100 (by decide) (by decide) (fun g4 => tn_y_tm (fun g5 => absurd ⟨g1, g3, g4, g5⟩ g) (fun _ => br_f (by decide) ⟨rfl, I0⟩)) (fun _ => ⟨rfl, I0⟩))) (fun _ => br_f (by decide) ⟨rfl, I0⟩))) (fun _ => br_f (by decide) ⟨rfl, I0⟩)
    unfold wpX_want
    dsimp only
    exact tn_x_tn (fun g1 => br_f (by decide) (tn_x_of (fun g2 => absurd ⟨g1, g2⟩ g) (fun _ => br_t rfl YB))) (fun _ => br_t rfl YB)
theorem i_vc_release {k : Nat} {u : SX} {v : SY} (I : i_Rel k u v) (hk : k + 5 ≤ 2560) (v1 : Int32) : wpX_release (fun r u' => wpY_release (fun r' v' => r' = r ∧ i_Rel (k + 5) u' v') v v1) u v1 := by
  have I0 := I
  obtain ⟨fl, le, bl, bc, th, up, cl, av, st, wa, op, rk, fn, pa, be, co, ca, en, bw, pr, ln, nd, tl, rfl, rfl, hF, hM, hO, hN, hS, hT⟩ := I
  rcases Classical.em (tn_in v1 0 7) with g1 | g
  · obtain ⟨t, -, ht, rfl⟩ := id g1
    have cc : (nI t).toNatClampNeg = t := nI_clamp (by omega)
    have vc := tn_v8 (show t < 8 by omega)
    unfold wpX_release wpY_release
    dsimp only
    rw [cc]
    refine tn_x_tn (fun _ => br_f (by decide) ⟨vc, ?_⟩) (fun z => absurd g1 z)
    by_cases z : st t = 0
    · refine br_t z ?_
      exact tn_y_tn (fun _ => br_t rfl ⟨vc, br_t ((tn_SX_0 hS (by omega)).1 z) ⟨rfl, I0⟩⟩) (fun z => absurd g1 z)
    · have zw : ¬ wa t = 0 := fun y => z ((tn_SX_0 hS (by omega)).2 y)
      refine br_f z (tn_x_idle (by omega) ⟨vc, nm_e ?_⟩)
      have hF' := tn_FX_rel (t := t) hF
      have hM' := tn_MV_want (t := t) (e := en t) (x := vp_nar .boolean 0) hM
      rw [tn_up_id] at hM'
      obtain ⟨ln', nd', M', O', N', X', Y'⟩ := tn_settle (up := up) (cl := cl) (av := av) hF' hM'
      refine X' _ fl _ _ op rk fn (tn_SX_rel hS) (tn_TL_idle hT) fun fl2 st2 tl2 op2 rk2 fn2 S2 T2 => ?_
      refine tn_x_count M'.2.2.1 S2 ?_
      refine tn_y_tn (fun _ => br_t rfl ⟨vc, br_f zw ⟨vc, nm_e ⟨vc, nm_r (tn_up_I ln t 0) ?_⟩⟩⟩) (fun z => absurd g1 z)
      refine Y' _ le bl bc pa be fun le2 bl2 bc2 pa2 be2 => ?_
      exact ⟨rfl, _, _, _, _, _, _, _, _, _, _, _, _, _, _, _, _, _, _, _, _, _, _, _, rfl, rfl, hF', M', O', N', S2, T2⟩
  · unfold wpX_release wpY_release
    dsimp only
    exact tn_x_tn (fun g1 => absurd g1 g) (fun _ => br_t rfl (tn_y_tn (fun g1 => absurd g1 g) (fun _ => br_f (by decide) ⟨rfl, I0⟩)))
