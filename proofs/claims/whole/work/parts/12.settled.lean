/-! both sides settle alike -/
section
variable {fl le bl bc : Int32} {th up cl av st wa op rk fn pa be : Nat → Int32} {co ca en bw pr ln nd : Nat → Nat} {tl : Nat → Int64}
theorem tn_rounds (hF : tn_FX th wa co ca en bw pr) : ∀ N q m ln nd, 5832 < m + N → m ≤ tn_ph pr ln q → tn_MV wa en ln nd → tn_OK th up cl av ln nd → tn_LQ th ca bw pr ln nd q →
    ∃ ln' nd', tn_MV wa en ln' nd' ∧ tn_OK th up cl av ln' nd' ∧ (∀ c, c < 36 → ¬ tn_OL th ca bw ln' nd' c) ∧
      (∀ i, i ≤ m → ∃ n, ∀ (post : SX → Prop) (fl : Int32) (st : Nat → Int32) (tl : Nat → Int64) (op rk fn : Nat → Int32), tn_SX st wa ln → tn_TL tl ln nd → (∀ (fl' : Int32) (st' : Nat → Int32) (tl' : Nat → Int64) (op' rk' fn' : Nat → Int32), tn_SX st' wa ln' → tn_TL tl' ln' nd' → post (fl', th, up, tn_I co, tn_I ca, cl, st', tn_I en, tn_I bw, tn_I pr, av, tl', tn_I nd', tn_I ln', op', rk', fn')) → wX_settle_8 post n 1 (nI i) fl th up (tn_I co) (tn_I ca) cl st (tn_I en) (tn_I bw) (tn_I pr) av tl (tn_I nd) (tn_I ln) op rk fn) ∧
      (∃ n, ∀ (post : Int32 → SY → Prop) (le bl bc : Int32) (pa be : Nat → Int32), (∀ (le' bl' bc' : Int32) (pa' be' : Nat → Int32), post (nI (tn_np ln')) (le', bl', bc', th, tn_I co, tn_I ca, cl, up, wa, tn_I en, tn_I bw, tn_I pr, av, tn_I ln', tn_I nd', pa', be')) → wY_settle_6 post n 1 le bl bc th (tn_I co) (tn_I ca) cl up wa (tn_I en) (tn_I bw) (tn_I pr) av (tn_I ln) (tn_I nd) pa be) := by
  intro N
  induction N with
  | zero =>
    intro q m ln nd h1 h2
    have := tn_ph_le (pr := pr) (ln := ln) q
    omega
  | succ N ih =>
    intro q m ln nd h1 h2 M O L
    have b1 := tn_ph_le (pr := pr) (ln := ln) q
    have n8 : tn_np ln ≤ 8 := tn_sm_bd (n := 8) (b := 1) fun t _ => tn_q_le
    obtain ⟨ln1, k, M1, O1, L1, P1, N1, X1, Y1⟩ := tn_relieve hF 8 ln n8 M O L
    obtain ⟨nr, hnr⟩ := X1 0 (by omega)
    have fpr := hF.2.2.2.2.2.1
    have fen := hF.2.2.2.1
    have lt6 : ∀ i, i ≤ m → ¬ (1000000 : Int32) ≤ nI i := fun i hi => nI_ge (b := 1000000) (by omega) (by decide)
    rcases Classical.em (∀ k, k < 32 → ¬ tn_CA th up cl av wa en ca bw pr ln1 nd k) with hno | hex
    · refine ⟨ln1, nd, M1, O1, N1, fun i hi => ⟨2, fun post fl st tl op rk fn S T h => ?_⟩, ⟨2 + k, fun post le bl bc pa be h => Y1 2 post le bl bc pa be ?_⟩⟩
      · rw [wX_settle_8]
        refine br_f (by decide) (br_f (lt6 i hi) ⟨nr, hnr _ fl st tl op rk fn S T fun st' tl' S' T' => ?_⟩)
        refine tn_x_pff hF M1 S' T' (fun _ op' rk' => nm_e ?_) (fun k b n hk _ hC _ => absurd hC (hno k hk))
        rw [wX_settle_8]
        exact br_t rfl (h fl st' tl' op' rk' fn S' T')
      · rw [wY_settle_6]
        refine br_f (by decide) (tn_y_full hF.2.2.1 hF.2.2.2.2.1 fpr M1.1 M1.2.1 (fun _ => br_t rfl ?_) (fun c o hc hO => absurd hO (N1 c hc)))
        refine tn_y_one hF M1 (fun _ le' bl' bc' pa' be' => ?_) (fun k b n hk _ hC _ => absurd hC (hno k hk))
        rw [wY_settle_6]
        exact br_t rfl (tn_y_count M1.1 (h le' bl' bc' pa' be'))
    · obtain ⟨k0, hk0, hC, hle⟩ := tn_least32 _ hex
      obtain ⟨w0, l0, zp, b, n, hb, hn, hV⟩ := id hC
      have m8 : k0 % 8 < 8 := by omega
      have uk : ∀ k', tn_CA th up cl av wa en ca bw pr ln1 nd k' → (∀ j, j < k' → ¬ tn_CA th up cl av wa en ca bw pr ln1 nd j) → k' = k0 := by
        intro k' a b
        rcases Nat.lt_trichotomy k0 k' with z | z | z
        · exact absurd hC (b k0 z)
        · exact z.symm
        · exact absurd a (hle k' z)
      have ⟨b, n, B⟩ : ∃ b n, tn_BE (tn_Et th up cl av ca bw pr ln1 nd (k0 % 8)) co (en (k0 % 8)) b n := tn_BE_ex hb hn hV
      have ph1 := tn_ph_put (pr := pr) (L := b + 2) m8 l0 (by omega)
      have ph2 := tn_ph_gap (pr := pr) (ln := ln1) (fpr (k0 % 8)) fpr
      have ph3 := tn_ph_mono (pr := pr) (ln := ln1) (q := q) fpr
      obtain ⟨ln', nd', M', O', N', X', Y'⟩ := ih (pr (k0 % 8) + 1) (m + 1) (tn_up ln1 (k0 % 8) (b + 2)) (tn_pl nd (k0 % 8) (b + 2) (tn_pt (en (k0 % 8)) b n)) (by omega) (by omega) (tn_MV_put M1 fen w0 B.1 B.2.1 B.2.2.1.1) (tn_OK_put O1 M1 B.1 fun i hi => (B.2.2.1.2 i hi).2.1) (tn_LQ_put N1 M1 m8 l0 B)
      obtain ⟨ny, hny⟩ := Y'
      refine ⟨ln', nd', M', O', N', fun i hi => ?_, ⟨ny + 1 + k, fun post le bl bc pa be h => Y1 (ny + 1) post le bl bc pa be ?_⟩⟩
      · obtain ⟨nx, hnx⟩ := X' (i + 1) (by omega)
        refine ⟨nx + 1, fun post fl st tl op rk fn S T h => ?_⟩
        rw [wX_settle_8]
        refine br_f (by decide) (br_f (lt6 i hi) ⟨nr, hnr _ fl st tl op rk fn S T fun st' tl' S' T' => ?_⟩)
        refine tn_x_pff hF M1 S' T' (fun z => absurd hC (z k0 hk0)) (fun k2 b2 n2 hk2 hle2 hC2 B2 fl3 st3 tl3 op3 rk3 fn3 S3 T3 => ?_)
        have e := uk k2 hC2 hle2
        subst e
        obtain ⟨e1, e2⟩ := tn_BE_uniq B B2
        subst e1; subst e2
        refine nm_r (nI_1 i) ?_
        exact hnx post fl3 st3 tl3 op3 rk3 fn3 S3 T3 h
      · rw [wY_settle_6]
        refine br_f (by decide) (tn_y_full hF.2.2.1 hF.2.2.2.2.1 fpr M1.1 M1.2.1 (fun _ => br_t rfl ?_) (fun c o hc hO => absurd hO (N1 c hc)))
        refine tn_y_one hF M1 (fun z => absurd hC (z k0 hk0)) (fun k2 b2 n2 hk2 hle2 hC2 B2 le3 bl3 bc3 pa3 be3 => ?_)
        have e := uk k2 hC2 hle2
        subst e
        obtain ⟨e1, e2⟩ := tn_BE_uniq B B2
        subst e1; subst e2
        exact hny post le3 bl3 bc3 pa3 be3 h
end
