/-! widest -/
section
variable {fl le bl bc : Int32} {th up cl av st wa op rk fn pa be : Nat → Int32} {co ca en bw pr ln nd : Nat → Nat} {tl : Nat → Int64}
abbrev tn_EX (th up cl : Nat → Int32) (a : Int32) (ca bw pr ln nd : Nat → Nat) (q : Int32) (p : Nat) : Nat → Nat → Prop := fun x c => tn_EU th up cl a ca bw pr ln nd q p x c
theorem tn_x_wide {post : Int32 → SX → Prop} {e p w : Nat} {a q : Int32} (he : e < 36) (he2 : e / 6 ≠ e % 6) (hF : tn_FX th wa co ca en bw pr) (ho : ∀ c, c < 36 → op c = nI (tn_or th up cl a ca bw pr ln nd q p c)) (W : tn_MW (tn_EX th up cl a ca bw pr ln nd q p) e 5 0 w)
    (h : ∀ rk', post (nI w) (fl, th, up, tn_I co, tn_I ca, cl, st, tn_I en, tn_I bw, tn_I pr, av, tl, tn_I nd, tn_I ln, op, rk', fn)) : ∃ n, wX_widest_32 post (nI e) n 100 fl th up (tn_I co) (tn_I ca) cl st (tn_I en) (tn_I bw) (tn_I pr) av tl (tn_I nd) (tn_I ln) op rk fn := by
  obtain ⟨fTH, fco, fca, fen, fbw, fpr, fwa⟩ := hF
  have e31 : e < 2 ^ 31 := by omega
  have key : ∀ i (rk : Nat → Int32), w ≤ i → i ≤ 100 → wX_widest_32 post (nI e) (i + 1) (nI i) fl th up (tn_I co) (tn_I ca) cl st (tn_I en) (tn_I bw) (tn_I pr) av tl (tn_I nd) (tn_I ln) op rk fn := by
    intro i
    induction i with
    | zero =>
      intro rk h1 h2
      have : w = 0 := by omega
      subst this
      exact br_t (by decide) (h rk)
    | succ i ih =>
      intro rk h1 h2
      rw [wX_widest_32, tn_r6 e31, tn_d6 e31, nI_clamp (show e / 6 < 2 ^ 31 by omega)]
      have hop := fun c (hc : c < 36) => tn_or_EU (th := th) (up := up) (cl := cl) (pr := pr) (ln := ln) (nd := nd) (bw := bw) (b := i + 1) (a := a) (q := q) (p := p) fca (by omega) h2 hc (ho c hc)
      refine br_f (nI_nlt (b := 1) (by omega) (by omega)) ⟨tn_6, tn_x_rank (tn_EU_gd fTH) hop fco (by omega) fun rk' kk ek K => ⟨tn_6, tn_v6 (by omega), ?_⟩⟩
      have kb := K.2.1 (e / 6) (by omega)
      refine pk_le 1000000 (kk (e / 6)) (fun z => nm_r (pk_m1 i) (ih rk' ?_ (by omega))) (fun z => ?_) rfl (ek (e / 6) (by omega)) (by omega) (by omega)
      · rcases Nat.lt_or_ge i w with l | l
        · have : w = i + 1 := by omega
          subst this
          obtain ⟨b', n', a1, a2, -, V⟩ := (W.2 (i + 1) (by omega)).2 (Nat.le_refl _)
          have := tn_VA_rk K he (fun c _ => fco c) a1 V
          omega
        · exact l
      · obtain ⟨b, n, B, -⟩ := tn_RK_best K he he2 z
        have := (W.2 (i + 1) (by omega)).1 ⟨b, n, B.1, B.2.1, Or.inl B.1, B.2.2.1⟩
        have : w = i + 1 := by omega
        subst this
        exact h rk'
  exact ⟨101, key 100 rk W.1 (Nat.le_refl _)⟩
abbrev tn_JW : Type := Int32 → Int32 → Int32 → Int32 → Int32 → (Nat → Int32) → (Nat → Int32) → (Nat → Int32) → (Nat → Int32) → (Nat → Int32) → (Nat → Int32) → (Nat → Int32) → (Nat → Int32) → (Nat → Int32) → (Nat → Int32) → (Nat → Int32) → (Nat → Int32) → (Nat → Int32) → (Nat → Int32) → Prop
theorem tn_y_wide {post : Int32 → SY → Prop} {e m : Nat} (he : e < 36) (hm : m < 32) (hF : tn_FX th wa co ca en bw pr) (hM : tn_MV wa en ln nd)
    (h : ∀ (w : Nat) (le' : Int32) (pa' : Nat → Int32), tn_MW (tn_EX th up cl (nI (m % 8)) ca bw pr ln nd (-1) (m / 8)) e 5 0 w → post (nI w) (le', bl, bc, th, tn_I co, tn_I ca, cl, up, wa, tn_I en, tn_I bw, tn_I pr, av, tn_I ln, tn_I nd, pa', be)) : ∃ n, wY_widest_23 post (nI e) (nI m) n 0 0 le bl bc th (tn_I co) (tn_I ca) cl up wa (tn_I en) (tn_I bw) (tn_I pr) av (tn_I ln) (tn_I nd) pa be := by
  obtain ⟨fTH, fco, fca, fen, fbw, fpr, fwa⟩ := hF
  have inner : ∀ (J : tn_JW) (b : Nat), b < 5 →
      (∀ (w : Nat) (le : Int32) (pa : Nat → Int32), tn_MW (tn_EX th up cl (nI (m % 8)) ca bw pr ln nd (-1) (m / 8)) e b (6 ^ b) w → J (nI w) (nI (b + 1)) le bl bc th (tn_I co) (tn_I ca) cl up wa (tn_I en) (tn_I bw) (tn_I pr) av (tn_I ln) (tn_I nd) pa be) →
      ∀ d n (w : Nat) (le : Int32) (pa : Nat → Int32), n + d = 6 ^ b → tn_MW (tn_EX th up cl (nI (m % 8)) ca bw pr ln nd (-1) (m / 8)) e b n w → wY_widest_32 post J (nI e) (nI m) (nI b) (d + 1) (nI w) (nI n) le bl bc th (tn_I co) (tn_I ca) cl up wa (tn_I en) (tn_I bw) (tn_I pr) av (tn_I ln) (tn_I nd) pa be := by
    intro J b hb hJ d
    have h6 := tn_p6 hb
    induction d with
    | zero =>
      intro n w le pa hn W
      have : n = 6 ^ b := by omega
      subst this
      rw [wY_widest_32]
      refine tn_y_nums hb ?_
      exact br_t (Int32.le_refl _) (nm_r (nI_1 b) (hJ w le pa W))
    | succ d ih =>
      intro n w le pa hn W
      have hn6 : n < 6 ^ b := by omega
      have w100 := W.1
      rw [wY_widest_32, tn_r8 (show m < 2 ^ 31 by omega), tn_d8 (show m < 2 ^ 31 by omega)]
      refine tn_y_nums hb ?_
      refine br_f (nI_ge hn6 (by omega)) ?_
      refine tn_y_mk he hb hn6 fun pa' ep => ⟨fun D => br_f (by decide) ⟨tn_8, tn_8, ?_⟩, fun D => br_t rfl (nm_r (nI_1 n) (ih (n + 1) w _ pa' (by omega) ⟨W.1, fun x hx => ?_⟩))⟩
      · refine tn_y_width (m := b + 1) (f := tn_pt e b n) (by omega) (by omega) (by omega) fpr hM.1 hM.2.1 fca fbw (fun i _ => tn_pt_lt he) ep fun r WS => ?_
        have VA : ∀ x, tn_VA (tn_EX th up cl (nI (m % 8)) ca bw pr ln nd (-1) (m / 8) x) e b n ↔ ∀ i, i < b + 1 → tn_EU th up cl (nI (m % 8)) ca bw pr ln nd (-1) (m / 8) x (tn_cd (tn_pt e b n i) (tn_pt e b n (i + 1))) := fun x => ⟨fun v => v.2, fun v => ⟨D, v⟩⟩
        rcases WS with ⟨r1, rA⟩ | ⟨y, y1, y2, rfl, rA⟩
        · refine br_t ?_ (nm_r (nI_1 n) (ih (n + 1) w _ pa' (by omega) ⟨W.1, fun x hx => ?_⟩))
          · rw [tn_lt1] at r1
            rw [Int32.le_iff_toInt_le, nI_toInt (by omega)]
            omega
          · rw [tn_FB_s hb hn6, VA x, W.2 x hx]
            exact ⟨fun z => z.elim id fun z => absurd z (rA x hx), Or.inl⟩
        · refine pk_le y w (fun l => nm_r (nI_1 n) (ih (n + 1) w _ pa' (by omega) ⟨W.1, fun x hx => ?_⟩)) (fun l => nm_r (nI_1 n) (ih (n + 1) y _ pa' (by omega) ⟨y2, fun x hx => ?_⟩))
          · have VB := (VA x).trans (rA x hx)
            rw [tn_FB_s hb hn6, VB, W.2 x hx]
            omega
          · have VB := (VA x).trans (rA x hx)
            rw [tn_FB_s hb hn6, VB, W.2 x hx]
            omega
      · rw [tn_FB_s hb hn6, W.2 x hx]
        exact ⟨fun z => z.elim id fun z => absurd z.1 D, Or.inl⟩
  have outer : ∀ d b (w : Nat) (le : Int32) (pa : Nat → Int32), b + d = 5 → tn_MW (tn_EX th up cl (nI (m % 8)) ca bw pr ln nd (-1) (m / 8)) e b 0 w → wY_widest_23 post (nI e) (nI m) (d + 1) (nI w) (nI b) le bl bc th (tn_I co) (tn_I ca) cl up wa (tn_I en) (tn_I bw) (tn_I pr) av (tn_I ln) (tn_I nd) pa be := by
    intro d
    induction d with
    | zero =>
      intro b w le pa hb W
      have : b = 5 := by omega
      subst this
      exact br_t (by decide) (h w le pa W)
    | succ d ih =>
      intro b w le pa hb W
      refine br_f (nI_ge (b := 5) (by omega) (by decide)) ⟨6 ^ b + 1, ?_⟩
      exact inner _ b (by omega) (fun w le pa W => ih (b + 1) w le pa (by omega) (tn_MW_b W)) (6 ^ b) 0 w le pa (by omega) W
  exact ⟨6, outer 5 0 0 le pa (by omega) tn_MW_0⟩
end
theorem i_vc_widest {k : Nat} {u : SX} {v : SY} (I : i_Rel k u v) (hk : k + 5 ≤ 2560) (v1 : Int32) (v2 : Int32) : wpX_widest (fun r u' => wpY_widest (fun r' v' => r' = r ∧ i_Rel (k + 5) u' v') v v1 v2) u v1 v2 := by
  have I0 := I
  obtain ⟨fl, le, bl, bc, th, up, cl, av, st, wa, op, rk, fn, pa, be, co, ca, en, bw, pr, ln, nd, tl, rfl, rfl, hF, hM, hO, hN, hS, hT⟩ := I
  obtain ⟨fTH, fco, fca, fen, fbw, fpr, fwa⟩ := id hF
  rcases Classical.em (tn_ge v1 ∧ tn_in v2 0 31) with g | g
  · obtain ⟨g3, g5⟩ := id g
    obtain ⟨e, he, he2, rfl⟩ := id g3
    obtain ⟨m, -, hm, rfl⟩ := id g5
    obtain ⟨w, W⟩ := tn_MW_ex (E := tn_EX th up cl (nI (m % 8)) ca bw pr ln nd (-1) (m / 8)) (e := e) (fun x y c l z => ⟨z.1, z.2.1, by have := z.2.2; omega⟩) (fun x c z => by have := z.2.2; have := fca c; omega)
    unfold wpX_widest
    dsimp only
    rw [tn_r8 (show m < 2 ^ 31 by omega), tn_d8 (show m < 2 ^ 31 by omega)]
    refine tn_x_ge (fun _ => br_f (by decide) (tn_x_tm (fun _ => br_f (by decide) ⟨tn_8, tn_8, ?_⟩) (fun z => absurd g5 z))) (fun z => absurd g3 z)
    refine tn_x_rooms (by omega) fpr fca fbw hT fun op' ho => ?_
    refine tn_x_wide he he2 hF ho W fun rk' => ?_
    unfold wpY_widest
    refine tn_y_ge (fun _ => br_t rfl (tn_y_tm (fun _ => br_t rfl ?_) (fun z => absurd g5 z))) (fun z => absurd g3 z)
    refine tn_y_wide he (by omega) hF hM fun w' le' pa' W' => ?_
    have e := tn_MW_uniq W W'
    subst e
    exact ⟨rfl, _, _, _, _, _, _, _, _, _, _, _, _, _, _, _, _, _, _, _, _, _, _, _, rfl, rfl, hF, hM, hO, hN, hS, hT⟩
  · have YB : wpY_widest (fun r' v' => r' = -1 ∧ i_Rel (k + 5) (fl, th, up, tn_I co, tn_I ca, cl, st, tn_I en, tn_I bw, tn_I pr, av, tl, tn_I nd, tn_I ln, op, rk, fn) v') (le, bl, bc, th, tn_I co, tn_I ca, cl, up, wa, tn_I en, tn_I bw, tn_I pr, av, tn_I ln, tn_I nd, pa, be) v1 v2 := by
      unfold wpY_widest
      dsimp only
      exact tn_y_ge (fun g3 => br_t rfl (tn_y_tm (fun g5 => absurd ⟨g3, g5⟩ g) (fun _ => br_f (by decide) ⟨rfl, I0⟩))) (fun _ => br_f (by decide) ⟨rfl, I0⟩)
    unfold wpX_widest
    dsimp only
    exact tn_x_ge (fun g3 => br_f (by decide) (tn_x_tm (fun g5 => absurd ⟨g3, g5⟩ g) (fun _ => br_t rfl YB))) (fun _ => br_t rfl YB)
