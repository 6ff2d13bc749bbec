/-! change -/
def tn_gv (w x : Int32) : Prop := (w = 0 ∧ tn_in x 1 20) ∨ (w = 1 ∧ tn_in x 0 100) ∨ (w = 2 ∧ tn_in x 0 7) ∨ (w = 3 ∧ tn_in x 0 1)
theorem tn_gv_w {w x : Int32} (h : tn_gv w x) : tn_in w 0 3 := by
  rcases h with ⟨rfl, -⟩ | ⟨rfl, -⟩ | ⟨rfl, -⟩ | ⟨rfl, -⟩
  · exact ⟨0, by decide, by decide, rfl⟩
  · exact ⟨1, by decide, by decide, rfl⟩
  · exact ⟨2, by decide, by decide, rfl⟩
  · exact ⟨3, by decide, by decide, rfl⟩
theorem tn_in3 {w : Int32} (h : tn_in w 0 3) : w = 0 ∨ w = 1 ∨ w = 2 ∨ w = 3 := by
  obtain ⟨j, -, hj, rfl⟩ := h
  have : j = 0 ∨ j = 1 ∨ j = 2 ∨ j = 3 := by omega
  rcases this with rfl | rfl | rfl | rfl
  · exact Or.inl rfl
  · exact Or.inr (Or.inl rfl)
  · exact Or.inr (Or.inr (Or.inl rfl))
  · exact Or.inr (Or.inr (Or.inr rfl))
theorem tn_gv0 {x : Int32} : tn_gv 0 x ↔ tn_in x 1 20 := ⟨fun h => by rcases h with h | h | h | h <;> first | exact h.2 | exact absurd h.1 (by decide), fun h => Or.inl ⟨rfl, h⟩⟩
theorem tn_gv1 {x : Int32} : tn_gv 1 x ↔ tn_in x 0 100 := ⟨fun h => by rcases h with h | h | h | h <;> first | exact absurd h.1 (by decide) | exact h.2, fun h => Or.inr (Or.inl ⟨rfl, h⟩)⟩
theorem tn_gv2 {x : Int32} : tn_gv 2 x ↔ tn_in x 0 7 := ⟨fun h => by rcases h with h | h | h | h <;> first | exact absurd h.1 (by decide) | exact h.2, fun h => Or.inr (Or.inr (Or.inl ⟨rfl, h⟩))⟩
theorem tn_gv3 {x : Int32} : tn_gv 3 x ↔ tn_in x 0 1 := ⟨fun h => by rcases h with h | h | h | h <;> first | exact absurd h.1 (by decide) | exact h.2, fun h => Or.inr (Or.inr (Or.inr ⟨rfl, h⟩))⟩
theorem tn_x_gv {post : Int32 → Prop} {w x : Int32} (h1 : tn_gv w x → post 1) (h0 : ¬ tn_gv w x → post 0) : wpX_isGoodValue post w x := by
  refine tn_y_in 0 3 (by decide) (by decide) (fun z => ?_) (fun z => h0 fun y => z (tn_gv_w y))
  rcases tn_in3 z with rfl | rfl | rfl | rfl
  · rw [tn_gv0] at h1 h0
    exact br_t rfl (tn_x_in 1 20 (by decide) (by decide) (fun z => ⟨by decide, h1 z⟩) (fun z => ⟨by decide, h0 z⟩))
  · rw [tn_gv1] at h1 h0
    exact br_f (by decide) (br_t rfl (tn_x_in 0 100 (by decide) (by decide) (fun z => ⟨by decide, h1 z⟩) (fun z => ⟨by decide, h0 z⟩)))
  · rw [tn_gv2] at h1 h0
    exact br_f (by decide) (br_f (by decide) (br_t rfl (tn_x_in 0 7 (by decide) (by decide) (fun z => ⟨by decide, h1 z⟩) (fun z => ⟨by decide, h0 z⟩))))
  · rw [tn_gv3] at h1 h0
    exact br_f (by decide) (br_f (by decide) (br_f (by decide) (br_t rfl (tn_x_in 0 1 (by decide) (by decide) (fun z => ⟨by decide, h1 z⟩) (fun z => ⟨by decide, h0 z⟩)))))
section
variable {fl le bl bc : Int32} {th up cl av st wa op rk fn pa be : Nat → Int32} {co ca en bw pr ln nd : Nat → Nat} {tl : Nat → Int64}
theorem tn_y_gv {post : Int32 → Prop} {w x : Int32} (hw : tn_in w 0 3) (h1 : tn_gv w x → post 0) (h0 : ¬ tn_gv w x → post 1) : wpY_badValue post (le, bl, bc, th, tn_I co, tn_I ca, cl, up, wa, tn_I en, tn_I bw, tn_I pr, av, tn_I ln, tn_I nd, pa, be) w x := by
  rcases tn_in3 hw with rfl | rfl | rfl | rfl
  · rw [tn_gv0] at h1 h0
    exact br_t rfl (tn_y_in' 1 20 (by decide) (by decide) h1 h0)
  · rw [tn_gv1] at h1 h0
    have q := tn_y_in' 0 100 (by decide) (by decide) h1 h0
    exact br_f (by decide) ⟨fun z => q.1 z, fun z => br_t rfl (q.2 z)⟩
  · rw [tn_gv2] at h1 h0
    have q := tn_y_in' 0 7 (by decide) (by decide) h1 h0
    exact br_f (by decide) ⟨fun z => q.1 z, fun z => br_f (by decide) (br_t rfl (q.2 z))⟩
  · rw [tn_gv3] at h1 h0
    have q := tn_y_in' 0 1 (by decide) (by decide) h1 h0
    exact br_f (by decide) ⟨fun z => q.1 z, fun z => br_f (by decide) (br_f (by decide) (q.2 z))⟩
theorem tn_chg {k : Nat} {post : Int32 → SX → Prop} (hF : tn_FX th wa co ca en bw pr) (hM : tn_MV wa en ln nd) (hS : tn_SX st wa ln) (hT : tn_TL tl ln nd)
    (h : ∀ r u', wY_change_96 (fun r' v' => r' = r ∧ i_Rel k u' v') le bl bc th (tn_I co) (tn_I ca) cl up wa (tn_I en) (tn_I bw) (tn_I pr) av (tn_I ln) (tn_I nd) pa be → post r u') : wX_change_102 post fl th up (tn_I co) (tn_I ca) cl st (tn_I en) (tn_I bw) (tn_I pr) av tl (tn_I nd) (tn_I ln) op rk fn := by
  obtain ⟨ln', nd', M', O', N', X', Y'⟩ := tn_settle (up := up) (cl := cl) (av := av) hF hM
  refine X' _ fl st tl op rk fn hS hT fun fl2 st2 tl2 op2 rk2 fn2 S2 T2 => ?_
  refine tn_x_count M'.2.2.1 S2 (h _ _ ?_)
  refine Y' _ le bl bc pa be fun le2 bl2 bc2 pa2 be2 => ?_
  exact ⟨rfl, _, _, _, _, _, _, _, _, _, _, _, _, _, _, _, _, _, _, _, _, _, _, _, rfl, rfl, hF, M', O', N', S2, T2⟩
end
theorem i_vc_change {k : Nat} {u : SX} {v : SY} (I : i_Rel k u v) (hk : k + 5 ≤ 2560) (v1 : Int32) (v2 : Int32) (v3 : Int32) : wpX_change (fun r u' => wpY_change (fun r' v' => r' = r ∧ i_Rel (k + 5) u' v') v v1 v2 v3) u v1 v2 v3 := by
  have I0 := I
  obtain ⟨fl, le, bl, bc, th, up, cl, av, st, wa, op, rk, fn, pa, be, co, ca, en, bw, pr, ln, nd, tl, rfl, rfl, hF, hM, hO, hN, hS, hT⟩ := I
  rcases Classical.em (tn_gc v1 ∧ tn_gv v2 v3) with g | g
  · obtain ⟨g1, g2⟩ := g
    have gw := tn_gv_w g2
    obtain ⟨c, hc, hc2, rfl⟩ := id g1
    have cc : (nI c).toNatClampNeg = c := nI_clamp (by omega)
    have vc := tn_v36 hc
    by_cases z : th c = 0
    · unfold wpX_change wpY_change
      dsimp only
      rw [cc]
      refine tn_x_gc (fun _ => br_f (by decide) (tn_x_gv (fun _ => br_f (by decide) ⟨vc, br_t z ?_⟩) (fun z => absurd g2 z))) (fun z => absurd g1 z)
      exact tn_y_gc (fun _ => br_t rfl (tn_y_in 0 3 (by decide) (by decide) (fun _ => tn_y_gv gw (fun _ => br_t rfl ⟨vc, br_t z ⟨rfl, I0⟩⟩) (fun z => absurd g2 z)) (fun z => absurd gw z))) (fun z => absurd g1 z)
    · have YY : ∀ post : Int32 → SY → Prop, ((v2 = 0 → (vp_in (nI c) 36 ∧ ∀ a, a = upd (tn_I co) c v3 → wY_change_51 post (nI c) v2 v3 le bl bc th a (tn_I ca) cl up wa (tn_I en) (tn_I bw) (tn_I pr) av (tn_I ln) (tn_I nd) pa be)) ∧ (¬ v2 = 0 → wY_change_51 post (nI c) v2 v3 le bl bc th (tn_I co) (tn_I ca) cl up wa (tn_I en) (tn_I bw) (tn_I pr) av (tn_I ln) (tn_I nd) pa be)) → wpY_change post (le, bl, bc, th, tn_I co, tn_I ca, cl, up, wa, tn_I en, tn_I bw, tn_I pr, av, tn_I ln, tn_I nd, pa, be) (nI c) v2 v3 := by
        intro post h
        unfold wpY_change
        dsimp only
        rw [cc]
        exact tn_y_gc (fun _ => br_t rfl (tn_y_in 0 3 (by decide) (by decide) (fun _ => tn_y_gv gw (fun _ => br_t rfl ⟨vc, br_f z h⟩) (fun z => absurd g2 z)) (fun z => absurd gw z))) (fun z => absurd g1 z)
      unfold wpX_change
      dsimp only
      rw [cc]
      refine tn_x_gc (fun _ => br_f (by decide) (tn_x_gv (fun _ => br_f (by decide) ⟨vc, br_f z ?_⟩) (fun z => absurd g2 z))) (fun z => absurd g1 z)
      rcases tn_in3 gw with rfl | rfl | rfl | rfl
      · obtain ⟨x, x1, x2, rfl⟩ := tn_gv0.1 g2
        refine br_f (by decide) (br_f (by decide) (br_t rfl ⟨vc, nm_r (tn_up_I co c x) (tn_chg (k := k + 5) (le := le) (bl := bl) (bc := bc) (pa := pa) (be := be) (tn_FX_co hF x2) hM hS hT fun r u' h => YY _ (br_t rfl ⟨vc, nm_r (tn_up_I co c x) (br_f (by decide) (br_f (by decide) (br_f (by decide) h)))⟩))⟩))
      · obtain ⟨x, x1, x2, rfl⟩ := tn_gv1.1 g2
        refine br_f (by decide) (br_f (by decide) (br_f (by decide) (br_t rfl ⟨vc, nm_r (tn_up_I ca c x) (tn_chg (k := k + 5) (le := le) (bl := bl) (bc := bc) (pa := pa) (be := be) (tn_FX_ca hF x2) hM hS hT fun r u' h => YY _ (br_f (by decide) (br_t rfl ⟨vc, nm_r ((congrArg (fun z => upd (tn_I ca) z (nI x)) cc).trans (tn_up_I ca c x)) (br_f (by decide) (br_f (by decide) h))⟩)))⟩)))
      · refine br_f (by decide) (br_f (by decide) (br_f (by decide) (br_f (by decide) (br_t rfl ⟨vc, nm_e (tn_chg (k := k + 5) (le := le) (bl := bl) (bc := bc) (pa := pa) (be := be) hF hM hS hT fun r u' h => YY _ (br_f (by decide) (br_f (by decide) (br_t rfl ⟨vc, nm_r (congrArg (fun z => upd cl z v3) cc) (br_f (by decide) h)⟩))))⟩))))
      · have fin : ∀ b : Int32, (∀ post : Int32 → SY → Prop, wY_change_95 post b (nI c) le bl bc th (tn_I co) (tn_I ca) cl up wa (tn_I en) (tn_I bw) (tn_I pr) av (tn_I ln) (tn_I nd) pa be → wpY_change post (le, bl, bc, th, tn_I co, tn_I ca, cl, up, wa, tn_I en, tn_I bw, tn_I pr, av, tn_I ln, tn_I nd, pa, be) (nI c) 3 v3) → wX_change_101 (fun r u' => wpY_change (fun r' v' => r' = r ∧ i_Rel (k + 5) u' v') (le, bl, bc, th, tn_I co, tn_I ca, cl, up, wa, tn_I en, tn_I bw, tn_I pr, av, tn_I ln, tn_I nd, pa, be) (nI c) 3 v3) b (nI c) fl th up (tn_I co) (tn_I ca) cl st (tn_I en) (tn_I bw) (tn_I pr) av tl (tn_I nd) (tn_I ln) op rk fn := by
          intro b hb
          exact ⟨vc, nm_e (tn_chg (k := k + 5) (le := le) (bl := bl) (bc := bc) (pa := pa) (be := be) hF hM hS hT fun r u' h => hb _ ⟨vc, nm_e h⟩)⟩
        refine br_f (by decide) (br_t (by decide) (br_c (fun e => fin 1 fun post h => YY post (br_f (by decide) (br_f (by decide) (br_f (by decide) (br_t rfl (br_t e h)))))) (fun e => fin 0 fun post h => YY post (br_f (by decide) (br_f (by decide) (br_f (by decide) (br_t rfl (br_f e h))))))))
  · have YB : wpY_change (fun r' v' => r' = -1 ∧ i_Rel (k + 5) (fl, th, up, tn_I co, tn_I ca, cl, st, tn_I en, tn_I bw, tn_I pr, av, tl, tn_I nd, tn_I ln, op, rk, fn) v') (le, bl, bc, th, tn_I co, tn_I ca, cl, up, wa, tn_I en, tn_I bw, tn_I pr, av, tn_I ln, tn_I nd, pa, be) v1 v2 v3 := by
      unfold wpY_change
      dsimp only
      exact tn_y_gc (fun g1 => br_t rfl (tn_y_in 0 3 (by decide) (by decide) (fun gw => tn_y_gv gw (fun g2 => absurd ⟨g1, g2⟩ g) (fun _ => br_f (by decide) ⟨rfl, I0⟩)) (fun _ => ⟨rfl, I0⟩))) (fun z => br_f (by decide) ⟨rfl, I0⟩)
    unfold wpX_change
    dsimp only
    exact tn_x_gc (fun g1 => br_f (by decide) (tn_x_gv (fun g2 => absurd ⟨g1, g2⟩ g) (fun z => br_t rfl YB))) (fun z => br_t rfl YB)
