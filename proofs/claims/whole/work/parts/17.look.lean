/-! look, room, state, node, cost, over -/
section
variable {fl le bl bc : Int32} {th up cl av st wa op rk fn pa be : Nat → Int32} {co ca en bw pr ln nd : Nat → Nat} {tl : Nat → Int64}
noncomputable def tn_cs (co ln nd : Nat → Nat) (t : Nat) : Nat := tn_sm (fun c => tn_q (tn_ov ln nd t c) (co c)) 36
noncomputable def tn_oc (ln nd : Nat → Nat) (c : Nat) : Nat := tn_sm (fun t => tn_q (tn_ov ln nd t c) 1) 8
theorem tn_x_cs {post : Int32 → Prop} {t : Nat} (ht : t < 8) (hT : tn_TL tl ln nd) (h : post (nI (tn_cs co ln nd t))) : ∃ n, wX_cost_26 post (nI t) fl th up (tn_I co) (tn_I ca) cl st (tn_I en) (tn_I bw) (tn_I pr) av tl (tn_I nd) (tn_I ln) op rk fn n 0 0 := by
  have key : ∀ d i, i + d = 36 → wX_cost_26 post (nI t) fl th up (tn_I co) (tn_I ca) cl st (tn_I en) (tn_I bw) (tn_I pr) av tl (tn_I nd) (tn_I ln) op rk fn (d + 1) (nI (tn_sm (fun c => tn_q (tn_ov ln nd t c) (co c)) i)) (nI i) := by
    intro d
    induction d with
    | zero =>
      intro i hi
      have : i = 36 := by omega
      subst this
      exact br_t (by decide) h
    | succ d ih =>
      intro i hi
      refine br_f (tn_i36 (by omega)) (tn_x_isOver ht (by omega) hT (fun z => br_f (by decide) ⟨tn_v36 (by omega), nm_r ?_ (nm_r (nI_1 i) (ih (i + 1) (by omega)))⟩) (fun z => br_t rfl (nm_r (nI_1 i) ?_)))
      · rw [tn_cl (tn_I co) (by omega), nI_add]
        simp only [tn_sm, tn_q_t z]
      · have q := ih (i + 1) (by omega)
        simp only [tn_sm, tn_q_f z, Nat.add_zero] at q
        exact q
  exact ⟨37, key 36 0 (by omega)⟩
theorem tn_y_cs {post : Int32 → Prop} {t : Nat} (ht : t < 8) (hl : ∀ t, ln t ≤ 6) (hn : ∀ i, nd i < 6) (h : post (nI (tn_cs co ln nd t))) : ∃ n, wY_cost_26 post (nI t) le bl bc th (tn_I co) (tn_I ca) cl up wa (tn_I en) (tn_I bw) (tn_I pr) av (tn_I ln) (tn_I nd) pa be n 0 0 := by
  have key : ∀ d i, i + d = 36 → wY_cost_26 post (nI t) le bl bc th (tn_I co) (tn_I ca) cl up wa (tn_I en) (tn_I bw) (tn_I pr) av (tn_I ln) (tn_I nd) pa be (d + 1) (nI (tn_sm (fun c => tn_q (tn_ov ln nd t c) (co c)) i)) (nI i) := by
    intro d
    induction d with
    | zero =>
      intro i hi
      have : i = 36 := by omega
      subst this
      exact br_t (by decide) h
    | succ d ih =>
      intro i hi
      refine br_f (tn_i36 (by omega)) (tn_y_isOver ht (by omega) hl hn (fun z => br_f (by decide) ⟨tn_v36 (by omega), nm_r ?_ (nm_r (nI_1 i) (ih (i + 1) (by omega)))⟩) (fun z => br_t rfl (nm_r (nI_1 i) ?_)))
      · rw [tn_cl (tn_I co) (by omega), nI_add]
        simp only [tn_sm, tn_q_t z]
      · have q := ih (i + 1) (by omega)
        simp only [tn_sm, tn_q_f z, Nat.add_zero] at q
        exact q
  exact ⟨37, key 36 0 (by omega)⟩
theorem tn_x_oc {post : Int32 → Prop} {c : Nat} (hc : c < 36) (hT : tn_TL tl ln nd) (h : post (nI (tn_oc ln nd c))) : ∃ n, wX_over_25 post (nI c) fl th up (tn_I co) (tn_I ca) cl st (tn_I en) (tn_I bw) (tn_I pr) av tl (tn_I nd) (tn_I ln) op rk fn n 0 0 := by
  have key : ∀ d i, i + d = 8 → wX_over_25 post (nI c) fl th up (tn_I co) (tn_I ca) cl st (tn_I en) (tn_I bw) (tn_I pr) av tl (tn_I nd) (tn_I ln) op rk fn (d + 1) (nI (tn_sm (fun t => tn_q (tn_ov ln nd t c) 1) i)) (nI i) := by
    intro d
    induction d with
    | zero =>
      intro i hi
      have : i = 8 := by omega
      subst this
      exact br_t (by decide) h
    | succ d ih =>
      intro i hi
      refine br_f (tn_i8 (by omega)) (tn_x_isOver (by omega) hc hT (fun z => br_f (by decide) (nm_r ?_ (nm_r (nI_1 i) (ih (i + 1) (by omega))))) (fun z => br_t rfl (nm_r (nI_1 i) ?_)))
      · rw [nI_1]
        simp only [tn_sm, tn_q_t z]
      · have q := ih (i + 1) (by omega)
        simp only [tn_sm, tn_q_f z, Nat.add_zero] at q
        exact q
  exact ⟨9, key 8 0 (by omega)⟩
theorem tn_y_oc {post : Int32 → Prop} {c : Nat} (hc : c < 36) (hl : ∀ t, ln t ≤ 6) (hn : ∀ i, nd i < 6) (h : post (nI (tn_oc ln nd c))) : ∃ n, wY_over_26 post (nI c) le bl bc th (tn_I co) (tn_I ca) cl up wa (tn_I en) (tn_I bw) (tn_I pr) av (tn_I ln) (tn_I nd) pa be n 0 0 := by
  have key : ∀ d i, i + d = 8 → wY_over_26 post (nI c) le bl bc th (tn_I co) (tn_I ca) cl up wa (tn_I en) (tn_I bw) (tn_I pr) av (tn_I ln) (tn_I nd) pa be (d + 1) (nI (tn_sm (fun t => tn_q (tn_ov ln nd t c) 1) i)) (nI i) := by
    intro d
    induction d with
    | zero =>
      intro i hi
      have : i = 8 := by omega
      subst this
      exact br_t (by decide) h
    | succ d ih =>
      intro i hi
      refine br_f (tn_i8 (by omega)) (tn_y_isOver (by omega) hc hl hn (fun z => br_f (by decide) (nm_r ?_ (nm_r (nI_1 i) (ih (i + 1) (by omega))))) (fun z => br_t rfl (nm_r (nI_1 i) ?_)))
      · rw [nI_1]
        simp only [tn_sm, tn_q_t z]
      · have q := ih (i + 1) (by omega)
        simp only [tn_sm, tn_q_f z, Nat.add_zero] at q
        exact q
  exact ⟨9, key 8 0 (by omega)⟩
end
theorem i_vc_look {k : Nat} {u : SX} {v : SY} (I : i_Rel k u v) (hk : k + 5 ≤ 2560) (v1 : Int32) (v2 : Int32) : wpX_look (fun r => wpY_look (fun r' => r' = r ∧ i_Rel (k + 5) u v) v v1 v2) u v1 v2 := by
  have I0 : i_Rel (k + 5) u v := I
  generalize i_Rel (k + 5) u v = P at I0
  obtain ⟨fl, le, bl, bc, th, up, cl, av, st, wa, op, rk, fn, pa, be, co, ca, en, bw, pr, ln, nd, tl, rfl, rfl, hF, hM, hO, hN, hS, hT⟩ := I
  rcases Classical.em (tn_gc v1 ∧ tn_in v2 0 4) with g | g
  · obtain ⟨g1, g2⟩ := g
    obtain ⟨c, hc, hc2, rfl⟩ := id g1
    have cc : (nI c).toNatClampNeg = c := nI_clamp (by omega)
    have vc := tn_v36 hc
    unfold wpX_look wpY_look
    dsimp only
    rw [cc]
    refine tn_x_gc (fun _ => br_f (by decide) (tn_x_in 0 4 (by decide) (by decide) (fun _ => br_f (by decide) ⟨vc, ?_⟩) (fun z => absurd g2 z))) (fun z => absurd g1 z)
    by_cases z : th c = 0
    · exact br_t z (tn_y_gc (fun _ => br_t rfl (tn_y_in' 0 4 (by decide) (by decide) (fun _ => ⟨vc, br_t z ⟨rfl, I0⟩⟩) (fun z => absurd g2 z))) (fun z => absurd g1 z))
    · refine br_f z ?_
      obtain ⟨j, -, hj, rfl⟩ := id g2
      have hj' : j = 0 ∨ j = 1 ∨ j = 2 ∨ j = 3 ∨ j = 4 := by omega
      rcases hj' with rfl | rfl | rfl | rfl | rfl
      · refine br_f (by decide) (br_f (by decide) (br_t rfl ⟨vc, ?_⟩))
        exact tn_y_gc (fun _ => br_t rfl (tn_y_in' 0 4 (by decide) (by decide) (fun _ => ⟨vc, br_f z (br_t rfl ⟨vc, ⟨rfl, I0⟩⟩)⟩) (fun z => absurd g2 z))) (fun z => absurd g1 z)
      · refine br_f (by decide) (br_f (by decide) (br_f (by decide) (br_t rfl ⟨vc, ?_⟩)))
        exact tn_y_gc (fun _ => br_t rfl (tn_y_in' 0 4 (by decide) (by decide) (fun _ => ⟨vc, br_f z (br_f (by decide) (br_t rfl ⟨vc, ⟨rfl, I0⟩⟩))⟩) (fun z => absurd g2 z))) (fun z => absurd g1 z)
      · refine br_f (by decide) (br_f (by decide) (br_f (by decide) (br_f (by decide) (br_t rfl ⟨vc, ?_⟩))))
        exact tn_y_gc (fun _ => br_t rfl (tn_y_in' 0 4 (by decide) (by decide) (fun _ => ⟨vc, br_f z (br_f (by decide) (br_f (by decide) (br_t rfl ⟨vc, ⟨rfl, I0⟩⟩)))⟩) (fun z => absurd g2 z))) (fun z => absurd g1 z)
      · refine br_f (by decide) (br_f (by decide) (br_f (by decide) (br_f (by decide) (br_f (by decide) (br_t rfl ⟨vc, ?_⟩)))))
        refine br_c (fun y => ?_) (fun y => ?_)
        · exact tn_y_gc (fun _ => br_t rfl (tn_y_in' 0 4 (by decide) (by decide) (fun _ => ⟨vc, br_f z (br_f (by decide) (br_f (by decide) (br_f (by decide) (br_t rfl ⟨vc, br_t y ⟨rfl, I0⟩⟩))))⟩) (fun z => absurd g2 z))) (fun z => absurd g1 z)
        · exact tn_y_gc (fun _ => br_t rfl (tn_y_in' 0 4 (by decide) (by decide) (fun _ => ⟨vc, br_f z (br_f (by decide) (br_f (by decide) (br_f (by decide) (br_t rfl ⟨vc, br_f y ⟨rfl, I0⟩⟩))))⟩) (fun z => absurd g2 z))) (fun z => absurd g1 z)
      · refine br_f (by decide) (br_t (by decide) (tn_x_load hc hT ?_))
        refine tn_y_gc (fun _ => br_t rfl (tn_y_in' 0 4 (by decide) (by decide) (fun _ => ⟨vc, br_f z (br_f (by decide) (br_f (by decide) (br_f (by decide) (br_f (by decide) ?_))))⟩) (fun z => absurd g2 z))) (fun z => absurd g1 z)
        refine tn_y_taken (p := 3) hc (by decide) hF.2.2.2.2.2.1 hM.1 hM.2.1 ?_
        rw [tn_tk_ld hF.2.2.2.2.2.1]
        exact ⟨rfl, I0⟩
  · have YB : wpY_look (fun r' => r' = -1 ∧ P) (le, bl, bc, th, tn_I co, tn_I ca, cl, up, wa, tn_I en, tn_I bw, tn_I pr, av, tn_I ln, tn_I nd, pa, be) v1 v2 := by
      unfold wpY_look
      dsimp only
      exact tn_y_gc (fun g1 => br_t rfl (tn_y_in' 0 4 (by decide) (by decide) (fun g2 => absurd ⟨g1, g2⟩ g) (fun _ => ⟨rfl, I0⟩))) (fun _ => br_f (by decide) ⟨rfl, I0⟩)
    unfold wpX_look
    dsimp only
    exact tn_x_gc (fun g1 => br_f (by decide) (tn_x_in 0 4 (by decide) (by decide) (fun g2 => absurd ⟨g1, g2⟩ g) (fun _ => br_t rfl YB))) (fun _ => br_t rfl YB)
theorem i_vc_room {k : Nat} {u : SX} {v : SY} (I : i_Rel k u v) (hk : k + 5 ≤ 2560) (v1 : Int32) (v2 : Int32) : wpX_room (fun r => wpY_room (fun r' => r' = r ∧ i_Rel (k + 5) u v) v v1 v2) u v1 v2 := by
  have I0 : i_Rel (k + 5) u v := I
  generalize i_Rel (k + 5) u v = P at I0
  obtain ⟨fl, le, bl, bc, th, up, cl, av, st, wa, op, rk, fn, pa, be, co, ca, en, bw, pr, ln, nd, tl, rfl, rfl, hF, hM, hO, hN, hS, hT⟩ := I
  rcases Classical.em (tn_gc v1 ∧ tn_in v2 0 3) with g | g
  · obtain ⟨g1, g2⟩ := g
    obtain ⟨c, hc, hc2, rfl⟩ := id g1
    obtain ⟨p, -, hp, rfl⟩ := id g2
    have cc : (nI c).toNatClampNeg = c := nI_clamp (by omega)
    have vc := tn_v36 hc
    unfold wpX_room wpY_room
    dsimp only
    rw [cc]
    refine tn_x_gc (fun _ => br_f (by decide) (tn_x_in 0 3 (by decide) (by decide) (fun _ => br_f (by decide) ⟨vc, ?_⟩) (fun z => absurd g2 z))) (fun z => absurd g1 z)
    by_cases z : th c = 0
    · exact br_t z (tn_y_gc (fun _ => br_t rfl (tn_y_in' 0 3 (by decide) (by decide) (fun _ => ⟨vc, br_t z ⟨rfl, I0⟩⟩) (fun z => absurd g2 z))) (fun z => absurd g1 z))
    · refine br_f z (tn_x_room hc (by omega) hF.2.2.2.2.2.1 hT ?_)
      exact tn_y_gc (fun _ => br_t rfl (tn_y_in' 0 3 (by decide) (by decide) (fun _ => ⟨vc, br_f z (tn_y_room hc (by omega) hF.2.2.2.2.2.1 hM.1 hM.2.1 ⟨rfl, I0⟩)⟩) (fun z => absurd g2 z))) (fun z => absurd g1 z)
  · have YB : wpY_room (fun r' => r' = -1 ∧ P) (le, bl, bc, th, tn_I co, tn_I ca, cl, up, wa, tn_I en, tn_I bw, tn_I pr, av, tn_I ln, tn_I nd, pa, be) v1 v2 := by
      unfold wpY_room
      dsimp only
      exact tn_y_gc (fun g1 => br_t rfl (tn_y_in' 0 3 (by decide) (by decide) (fun g2 => absurd ⟨g1, g2⟩ g) (fun _ => ⟨rfl, I0⟩))) (fun _ => br_f (by decide) ⟨rfl, I0⟩)
    unfold wpX_room
    dsimp only
    exact tn_x_gc (fun g1 => br_f (by decide) (tn_x_in 0 3 (by decide) (by decide) (fun g2 => absurd ⟨g1, g2⟩ g) (fun _ => br_t rfl YB))) (fun _ => br_t rfl YB)
theorem i_vc_state {k : Nat} {u : SX} {v : SY} (I : i_Rel k u v) (hk : k + 5 ≤ 2560) (v1 : Int32) : wpX_state (fun r => wpY_state (fun r' => r' = r ∧ i_Rel (k + 5) u v) v v1) u v1 := by
  have I0 : i_Rel (k + 5) u v := I
  generalize i_Rel (k + 5) u v = P at I0
  obtain ⟨fl, le, bl, bc, th, up, cl, av, st, wa, op, rk, fn, pa, be, co, ca, en, bw, pr, ln, nd, tl, rfl, rfl, hF, hM, hO, hN, hS, hT⟩ := I
  unfold wpX_state wpY_state
  dsimp only
  rcases Classical.em (tn_in v1 0 7) with g1 | g
  · obtain ⟨t, -, ht, rfl⟩ := id g1
    have cc : (nI t).toNatClampNeg = t := nI_clamp (by omega)
    have vc := tn_v8 (show t < 8 by omega)
    have S := hS t (by omega)
    have l6 := hM.1 t
    rw [cc]
    refine tn_x_tn (fun _ => br_f (by decide) ⟨vc, ?_⟩) (fun z => absurd g1 z)
    refine tn_y_tn (fun _ => br_t rfl ⟨vc, br_c (fun z => ⟨(S.1 z).symm, I0⟩) (fun z => ⟨vc, ?_⟩)⟩) (fun z => absurd g1 z)
    exact pk_le (ln t) 0 (fun y => ⟨(S.2.1 z (by omega)).symm, I0⟩) (fun y => ⟨(S.2.2 z (by omega)).symm, I0⟩)
  · exact tn_x_tn (fun g1 => absurd g1 g) (fun _ => br_t rfl (tn_y_tn (fun g1 => absurd g1 g) (fun _ => br_f (by decide) ⟨rfl, I0⟩)))
theorem i_vc_node {k : Nat} {u : SX} {v : SY} (I : i_Rel k u v) (hk : k + 5 ≤ 2560) (v1 : Int32) (v2 : Int32) : wpX_node (fun r => wpY_node (fun r' => r' = r ∧ i_Rel (k + 5) u v) v v1 v2) u v1 v2 := by
  have I0 : i_Rel (k + 5) u v := I
  generalize i_Rel (k + 5) u v = P at I0
  obtain ⟨fl, le, bl, bc, th, up, cl, av, st, wa, op, rk, fn, pa, be, co, ca, en, bw, pr, ln, nd, tl, rfl, rfl, hF, hM, hO, hN, hS, hT⟩ := I
  rcases Classical.em (tn_in v1 0 7) with g1 | g
  · obtain ⟨t, -, ht, rfl⟩ := id g1
    have cc : (nI t).toNatClampNeg = t := nI_clamp (by omega)
    have vc := tn_v8 (show t < 8 by omega)
    have l6 := hM.1 t
    have YN : (∀ i, v2 = nI i → i < ln t → False) → (wpY_node (fun r' => r' = -2 ∧ P) (le, bl, bc, th, tn_I co, tn_I ca, cl, up, wa, tn_I en, tn_I bw, tn_I pr, av, tn_I ln, tn_I nd, pa, be) (nI t) v2) := by
      intro hi
      unfold wpY_node
      dsimp only
      rw [cc]
      refine tn_y_tn (fun _ => br_t rfl (br_c (fun _ => ⟨rfl, I0⟩) (fun z => ⟨vc, br_f ?_ ⟨rfl, I0⟩⟩))) (fun z => absurd g1 z)
      obtain ⟨i, h31, rfl⟩ := nI_of z
      exact fun y => hi i rfl ((nI_ltI h31 (by omega)).1 y)
    by_cases z : ln t = 0
    · have q := YN (fun i _ h => by omega)
      unfold wpX_node
      dsimp only
      rw [cc]
      exact tn_x_tn (fun _ => br_f (by decide) ⟨vc, br_f (fun y => (tn_SX_2 hS hM (by omega)).1 y z) q⟩) (fun z => absurd g1 z)
    · have e1 : tn_I ln t - 1 = nI (ln t - 1) := pk_sub (b := 1) (by omega)
      rcases Classical.em (tn_in v2 0 (ln t - 1)) with g2 | g2
      · obtain ⟨i, -, hi, rfl⟩ := id g2
        unfold wpX_node wpY_node
        dsimp only
        rw [cc, tn_6ab, nI_clamp (show 6 * t + i < 2 ^ 31 by omega)]
        refine tn_x_tn (fun _ => br_f (by decide) ⟨vc, br_t ((tn_SX_2 hS hM (by omega)).2 z) ⟨vc, ?_⟩⟩) (fun z => absurd g1 z)
        rw [e1]
        refine tn_x_in 0 (ln t - 1) (by decide) (by omega) (fun _ => br_f (by decide) ⟨tn_v48 (by omega), ?_⟩) (fun y => absurd g2 y)
        exact tn_y_tn (fun _ => br_t rfl (br_f (nI_pos (by omega)) ⟨vc, br_t (nI_lt (by omega) (by omega)) ⟨tn_v48 (by omega), ⟨rfl, I0⟩⟩⟩)) (fun z => absurd g1 z)
      · have q := YN (fun i e h => g2 ⟨i, Nat.zero_le _, by omega, e⟩)
        unfold wpX_node
        dsimp only
        rw [cc]
        refine tn_x_tn (fun _ => br_f (by decide) ⟨vc, br_t ((tn_SX_2 hS hM (by omega)).2 z) ⟨vc, ?_⟩⟩) (fun z => absurd g1 z)
        rw [e1]
        exact tn_x_in 0 (ln t - 1) (by decide) (by omega) (fun y => absurd y g2) (fun _ => br_t rfl q)
  · unfold wpX_node wpY_node
    dsimp only
    exact tn_x_tn (fun g1 => absurd g1 g) (fun _ => br_t rfl (tn_y_tn (fun g1 => absurd g1 g) (fun _ => br_f (by decide) ⟨rfl, I0⟩)))
theorem i_vc_cost {k : Nat} {u : SX} {v : SY} (I : i_Rel k u v) (hk : k + 5 ≤ 2560) (v1 : Int32) : wpX_cost (fun r => wpY_cost (fun r' => r' = r ∧ i_Rel (k + 5) u v) v v1) u v1 := by
  have I0 : i_Rel (k + 5) u v := I
  generalize i_Rel (k + 5) u v = P at I0
  obtain ⟨fl, le, bl, bc, th, up, cl, av, st, wa, op, rk, fn, pa, be, co, ca, en, bw, pr, ln, nd, tl, rfl, rfl, hF, hM, hO, hN, hS, hT⟩ := I
  unfold wpX_cost wpY_cost
  dsimp only
  rcases Classical.em (tn_in v1 0 7) with g1 | g
  · obtain ⟨t, -, ht, rfl⟩ := id g1
    have cc : (nI t).toNatClampNeg = t := nI_clamp (by omega)
    have vc := tn_v8 (show t < 8 by omega)
    have l6 := hM.1 t
    rw [cc]
    refine tn_x_tn (fun _ => br_f (by decide) ⟨vc, ?_⟩) (fun z => absurd g1 z)
    by_cases z : ln t = 0
    · refine br_f (fun y => (tn_SX_2 hS hM (by omega)).1 y z) ?_
      exact tn_y_tn (fun _ => br_t rfl ⟨vc, br_t (congrArg nI z) ⟨rfl, I0⟩⟩) (fun z => absurd g1 z)
    · refine br_t ((tn_SX_2 hS hM (by omega)).2 z) (tn_x_cs (by omega) hT ?_)
      exact tn_y_tn (fun _ => br_t rfl ⟨vc, br_f (nI_ne0 (by omega) (by omega)) (tn_y_cs (by omega) hM.1 hM.2.1 ⟨rfl, I0⟩)⟩) (fun z => absurd g1 z)
  · exact tn_x_tn (fun g1 => absurd g1 g) (fun _ => br_t rfl (tn_y_tn (fun g1 => absurd g1 g) (fun _ => br_f (by decide) ⟨rfl, I0⟩)))
theorem i_vc_over {k : Nat} {u : SX} {v : SY} (I : i_Rel k u v) (hk : k + 5 ≤ 2560) (v1 : Int32) : wpX_over (fun r => wpY_over (fun r' => r' = r ∧ i_Rel (k + 5) u v) v v1) u v1 := by
  have I0 : i_Rel (k + 5) u v := I
  generalize i_Rel (k + 5) u v = P at I0
  obtain ⟨fl, le, bl, bc, th, up, cl, av, st, wa, op, rk, fn, pa, be, co, ca, en, bw, pr, ln, nd, tl, rfl, rfl, hF, hM, hO, hN, hS, hT⟩ := I
  unfold wpX_over wpY_over
  dsimp only
  rcases Classical.em (tn_gc v1) with g1 | g
  · obtain ⟨c, hc, hc2, rfl⟩ := id g1
    have cc : (nI c).toNatClampNeg = c := nI_clamp (by omega)
    have vc := tn_v36 hc
    rw [cc]
    refine tn_x_gc (fun _ => br_f (by decide) ⟨vc, br_c (fun z => ?_) (fun z => tn_x_oc hc hT ?_)⟩) (fun z => absurd g1 z)
    · exact tn_y_gc (fun _ => br_t rfl ⟨vc, br_t z ⟨rfl, I0⟩⟩) (fun z => absurd g1 z)
    · exact tn_y_gc (fun _ => br_t rfl ⟨vc, br_f z (tn_y_oc hc hM.1 hM.2.1 ⟨rfl, I0⟩)⟩) (fun z => absurd g1 z)
  · exact tn_x_gc (fun g1 => absurd g1 g) (fun _ => br_t rfl (tn_y_gc (fun g1 => absurd g1 g) (fun _ => br_f (by decide) ⟨rfl, I0⟩)))
