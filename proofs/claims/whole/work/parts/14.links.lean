/-! link, unlink, change -/
section
variable {fl le bl bc : Int32} {th up cl av st wa op rk fn pa be : Nat → Int32} {co ca en bw pr ln nd : Nat → Nat} {tl : Nat → Int64}
theorem tn_FX_th {c : Nat} {x : Int32} (h : tn_FX th wa co ca en bw pr) (hc : c < 36) (hc2 : c / 6 < c % 6) : tn_FX (upd th c x) wa co ca en bw pr := by
  refine ⟨fun d hd => ?_, h.2⟩
  by_cases z : d = c
  · subst z; exact ⟨hc, hc2⟩
  · rw [pk_un z] at hd; exact h.1 d hd
theorem tn_FX_co {c x : Nat} (h : tn_FX th wa co ca en bw pr) (hx : x ≤ 20) : tn_FX th wa (tn_up co c x) ca en bw pr := ⟨h.1, tn_up_le h.2.1 hx, h.2.2⟩
theorem tn_FX_ca {c x : Nat} (h : tn_FX th wa co ca en bw pr) (hx : x ≤ 100) : tn_FX th wa co (tn_up ca c x) en bw pr := ⟨h.1, h.2.1, tn_up_le h.2.2.1 hx, h.2.2.2⟩
end
theorem i_vc_link {k : Nat} {u : SX} {v : SY} (I : i_Rel k u v) (hk : k + 5 ≤ 2560) (v1 : Int32) (v2 : Int32) (v3 : Int32) : wpX_link (fun r u' => wpY_link (fun r' v' => r' = r ∧ i_Rel (k + 5) u' v') v v1 v2 v3) u v1 v2 v3 := by
  have I0 := I
  obtain ⟨fl, le, bl, bc, th, up, cl, av, st, wa, op, rk, fn, pa, be, co, ca, en, bw, pr, ln, nd, tl, rfl, rfl, hF, hM, hO, hN, hS, hT⟩ := I
  rcases Classical.em (tn_gc v1 ∧ tn_in v2 1 20 ∧ tn_in v3 0 100) with g | g
  · obtain ⟨g1, g2, g3⟩ := g
    obtain ⟨c, hc, hc2, rfl⟩ := id g1
    obtain ⟨x, x1, x2, rfl⟩ := id g2
    obtain ⟨y, y1, y2, rfl⟩ := id g3
    have cc : (nI c).toNatClampNeg = c := nI_clamp (by omega)
    have vc := tn_v36 hc
    unfold wpX_link wpY_link
    dsimp only
    rw [cc]
    refine tn_x_gc (fun _ => br_f (by decide) (tn_x_in 1 20 (by decide) (by decide) (fun _ => br_f (by decide) (tn_x_in 0 100 (by decide) (by decide) (fun _ => br_f (by decide) ⟨vc, ?_⟩) (fun z => absurd g3 z))) (fun z => absurd g2 z))) (fun z => absurd g1 z)
    by_cases z : th c = 0
    · refine br_t z ⟨vc, nm_e ⟨vc, nm_e ⟨vc, nm_r (tn_up_I co c x) ⟨vc, nm_r (tn_up_I ca c y) ⟨vc, nm_e ?_⟩⟩⟩⟩⟩
      have hF' := tn_FX_ca (c := c) (tn_FX_co (c := c) (tn_FX_th (x := vp_nar .boolean 1) hF hc hc2) x2) y2
      obtain ⟨ln', nd', M', O', N', X', Y'⟩ := tn_settle (up := upd up c (vp_nar .boolean 1)) (cl := upd cl c 0) (av := av) hF' hM
      refine X' _ fl st tl op rk fn hS hT fun fl2 st2 tl2 op2 rk2 fn2 S2 T2 => ?_
      refine tn_x_count M'.2.2.1 S2 ?_
      refine tn_y_gc (fun _ => br_t rfl (tn_y_in 1 20 (by decide) (by decide) (fun _ => tn_y_in' 0 100 (by decide) (by decide) (fun _ => ⟨vc, br_t z ⟨vc, nm_e ⟨vc, nm_r (tn_up_I co c x) ⟨vc, nm_r (tn_up_I ca c y) ⟨vc, nm_e ⟨vc, nm_e ?_⟩⟩⟩⟩⟩⟩) (fun z => absurd g3 z)) (fun z => absurd g2 z))) (fun z => absurd g1 z)
      refine Y' _ le bl bc pa be fun le2 bl2 bc2 pa2 be2 => ?_
      exact ⟨rfl, _, _, _, _, _, _, _, _, _, _, _, _, _, _, _, _, _, _, _, _, _, _, _, rfl, rfl, hF', M', O', N', S2, T2⟩
    · refine br_f z ?_
      exact tn_y_gc (fun _ => br_t rfl (tn_y_in 1 20 (by decide) (by decide) (fun _ => tn_y_in' 0 100 (by decide) (by decide) (fun _ => ⟨vc, br_f z ⟨rfl, I0⟩⟩) (fun z => absurd g3 z)) (fun z => absurd g2 z))) (fun z => absurd g1 z)
  · have YB : wpY_link (fun r' v' => r' = -1 ∧ i_Rel (k + 5) (fl, th, up, tn_I co, tn_I ca, cl, st, tn_I en, tn_I bw, tn_I pr, av, tl, tn_I nd, tn_I ln, op, rk, fn) v') (le, bl, bc, th, tn_I co, tn_I ca, cl, up, wa, tn_I en, tn_I bw, tn_I pr, av, tn_I ln, tn_I nd, pa, be) v1 v2 v3 := by
      unfold wpY_link
      dsimp only
      exact tn_y_gc (fun g1 => br_t rfl (tn_y_in 1 20 (by decide) (by decide) (fun g2 => tn_y_in' 0 100 (by decide) (by decide) (fun g3 => absurd ⟨g1, g2, g3⟩ g) (fun z => ⟨rfl, I0⟩)) (fun z => ⟨rfl, I0⟩))) (fun z => br_f (by decide) ⟨rfl, I0⟩)
    unfold wpX_link
    dsimp only
    exact tn_x_gc (fun g1 => br_f (by decide) (tn_x_in 1 20 (by decide) (by decide) (fun g2 => br_f (by decide) (tn_x_in 0 100 (by decide) (by decide) (fun g3 => absurd ⟨g1, g2, g3⟩ g) (fun z => br_t rfl YB))) (fun z => br_t rfl YB))) (fun z => br_t rfl YB)
theorem i_vc_unlink {k : Nat} {u : SX} {v : SY} (I : i_Rel k u v) (hk : k + 5 ≤ 2560) (v1 : Int32) : wpX_unlink (fun r u' => wpY_unlink (fun r' v' => r' = r ∧ i_Rel (k + 5) u' v') v v1) u v1 := by
  have I0 := I
  obtain ⟨fl, le, bl, bc, th, up, cl, av, st, wa, op, rk, fn, pa, be, co, ca, en, bw, pr, ln, nd, tl, rfl, rfl, hF, hM, hO, hN, hS, hT⟩ := I
  rcases Classical.em (tn_gc v1) with g1 | g
  · obtain ⟨c, hc, hc2, rfl⟩ := id g1
    have cc : (nI c).toNatClampNeg = c := nI_clamp (by omega)
    have vc := tn_v36 hc
    unfold wpX_unlink wpY_unlink
    dsimp only
    rw [cc]
    refine tn_x_gc (fun _ => br_f (by decide) ⟨vc, ?_⟩) (fun z => absurd g1 z)
    by_cases z : th c = 0
    · refine br_t z ?_
      exact tn_y_gc (fun _ => br_t rfl ⟨vc, br_t z ⟨rfl, I0⟩⟩) (fun z => absurd g1 z)
    · refine br_f z ⟨vc, nm_e ?_⟩
      have hF' := tn_FX_th (x := vp_nar .boolean 0) hF hc hc2
      obtain ⟨ln', nd', M', O', N', X', Y'⟩ := tn_settle (up := up) (cl := cl) (av := av) hF' hM
      refine X' _ fl st tl op rk fn hS hT fun fl2 st2 tl2 op2 rk2 fn2 S2 T2 => ?_
      refine tn_x_count M'.2.2.1 S2 ?_
      refine tn_y_gc (fun _ => br_t rfl ⟨vc, br_f z ⟨vc, nm_e ?_⟩⟩) (fun z => absurd g1 z)
      refine Y' _ le bl bc pa be fun le2 bl2 bc2 pa2 be2 => ?_
      exact ⟨rfl, _, _, _, _, _, _, _, _, _, _, _, _, _, _, _, _, _, _, _, _, _, _, _, rfl, rfl, hF', M', O', N', S2, T2⟩
  · unfold wpX_unlink wpY_unlink
    dsimp only
    exact tn_x_gc (fun g1 => absurd g1 g) (fun _ => br_t rfl (tn_y_gc (fun g1 => absurd g1 g) (fun _ => br_f (by decide) ⟨rfl, I0⟩)))
