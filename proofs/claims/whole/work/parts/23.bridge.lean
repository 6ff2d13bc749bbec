theorem i_vc_bridge {k : Nat} {u : SX} {v : SY} (I : i_Rel k u v) (hk : k + 5 ≤ 2560) (v1 : Int32) : wpX_bridge (fun r => wpY_bridge (fun r' => r' = r ∧ i_Rel (k + 5) u v) v v1) u v1 := by
  have I0 : i_Rel (k + 5) u v := I
  generalize i_Rel (k + 5) u v = P at I0
  obtain ⟨fl, le, bl, bc, th, up, cl, av, st, wa, op, rk, fn, pa, be, co, ca, en, bw, pr, ln, nd, tl, rfl, rfl, hF, hM, hO, hN, hS, hT⟩ := I
  unfold wpX_bridge wpY_bridge
  dsimp only
  rcases Classical.em (tn_gc v1) with g1 | g
  · obtain ⟨c, hc, hc2, rfl⟩ := id g1
    have c31 : c < 2 ^ 31 := by omega
    have vc := tn_v36 hc
    rw [nI_clamp c31, tn_r6 c31, tn_d6 c31]
    refine tn_x_gc (fun _ => br_f (by decide) ⟨vc, br_c (fun z => ?_) (fun z => ⟨vc, br_c (fun y => ?_) (fun y => ⟨tn_6, tn_x_reach (by omega) ⟨tn_6, ?_⟩⟩)⟩)⟩) (fun z => absurd g1 z)
    · exact tn_y_gc (fun _ => br_t rfl ⟨vc, br_t z ⟨rfl, I0⟩⟩) (fun z => absurd g1 z)
    · exact tn_y_gc (fun _ => br_t rfl ⟨vc, br_f z ⟨vc, br_t y ⟨rfl, I0⟩⟩⟩) (fun z => absurd g1 z)
    · have YY : ∀ post : Int32 → Prop, (((nI (tn_it (tn_U th up (nI c)) (2 ^ (c / 6)) 5) >>> (nI (c % 6) &&& 31)) &&& 1) = 0 → post 1) ∧ (¬ ((nI (tn_it (tn_U th up (nI c)) (2 ^ (c / 6)) 5) >>> (nI (c % 6) &&& 31)) &&& 1) = 0 → post 0) → wpY_bridge post (le, bl, bc, th, tn_I co, tn_I ca, cl, up, wa, tn_I en, tn_I bw, tn_I pr, av, tn_I ln, tn_I nd, pa, be) (nI c) := by
        intro post h
        unfold wpY_bridge
        dsimp only
        rw [nI_clamp c31, tn_r6 c31, tn_d6 c31]
        refine tn_y_gc (fun _ => br_t rfl ⟨vc, br_f z ⟨vc, br_f y ⟨tn_6, tn_y_reach (by omega) ⟨tn_6, ?_⟩⟩⟩⟩) (fun z => absurd g1 z)
        rw [tn_it_6 (show c / 6 < 6 by omega)]
        exact h
      have Y2 := YY
      unfold wpY_bridge at Y2
      dsimp only at Y2
      rw [nI_clamp c31, tn_r6 c31, tn_d6 c31] at Y2
      exact tn_x_me (fun a => br_f (by decide) (Y2 (fun r' => r' = 0 ∧ P) (br_f (fun w => tn_me0.1 w a) ⟨rfl, I0⟩))) (fun a => br_t rfl (Y2 (fun r' => r' = 1 ∧ P) (br_t (tn_me0.2 a) ⟨rfl, I0⟩)))
  · exact tn_x_gc (fun g1 => absurd g1 g) (fun _ => br_t rfl (tn_y_gc (fun g1 => absurd g1 g) (fun _ => br_f (by decide) ⟨rfl, I0⟩)))
theorem i_vc_groups {k : Nat} {u : SX} {v : SY} (I : i_Rel k u v) (hk : k + 5 ≤ 2560) : wpX_groups (fun r => wpY_groups (fun r' => r' = r ∧ i_Rel (k + 5) u v) v) u := by
  have I0 : i_Rel (k + 5) u v := I
  generalize i_Rel (k + 5) u v = P at I0
  obtain ⟨fl, le, bl, bc, th, up, cl, av, st, wa, op, rk, fn, pa, be, co, ca, en, bw, pr, ln, nd, tl, rfl, rfl, hF, hM, hO, hN, hS, hT⟩ := I
  exact tn_x_gr (tn_y_gr ⟨rfl, I0⟩)
