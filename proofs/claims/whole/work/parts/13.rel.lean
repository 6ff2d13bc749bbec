/-! the relation, what the arguments are, a settling as a whole -/
/-- the two networks are the same, no link is overloaded, no path is broken -/
def i_Rel (k : Nat) (u : SX) (v : SY) : Prop :=
  ∃ (fl le bl bc : Int32) (th up cl av st wa op rk fn pa be : Nat → Int32) (co ca en bw pr ln nd : Nat → Nat) (tl : Nat → Int64),
    u = (fl, th, up, tn_I co, tn_I ca, cl, st, tn_I en, tn_I bw, tn_I pr, av, tl, tn_I nd, tn_I ln, op, rk, fn) ∧ v = (le, bl, bc, th, tn_I co, tn_I ca, cl, up, wa, tn_I en, tn_I bw, tn_I pr, av, tn_I ln, tn_I nd, pa, be) ∧
    tn_FX th wa co ca en bw pr ∧ tn_MV wa en ln nd ∧ tn_OK th up cl av ln nd ∧ (∀ c, c < 36 → ¬ tn_OL th ca bw ln nd c) ∧ tn_SX st wa ln ∧ tn_TL tl ln nd
theorem i_up {k : Nat} {u : SX} {v : SY} (h : i_Rel k u v) : i_Rel (k + 5) u v := h
theorem tn_ov_z {nd : Nat → Nat} {t c : Nat} : ¬ tn_ov (fun _ => 0) nd t c := fun h => tn_ov_ne h rfl
theorem tn_ld_z {bw nd : Nat → Nat} {c : Nat} : tn_ld bw (fun _ => 0) nd c = 0 := by
  have h : tn_ld bw (fun _ => 0) nd c ≤ 8 * 0 := tn_sm_bd fun t _ => Nat.le_of_eq (tn_q_f tn_ov_z)
  omega
theorem i_vc0 : wpX_init (fun u => wpY_init (fun v => i_Rel 0 u v)) := by
  refine ⟨0, 0, 0, 0, fun _ => 0, fun _ => 0, fun _ => 0, fun _ => 0, fun _ => 0, fun _ => 0, fun _ => 0, fun _ => 0, fun _ => 0, fun _ => 0, fun _ => 0, fun _ => 0, fun _ => 0, fun _ => 0, fun _ => 0, fun _ => 0, fun _ => 0, fun _ => 0, fun _ => 0, rfl, rfl, ?_, ?_, ?_, ?_, ?_, ?_⟩
  · exact ⟨fun c h => absurd rfl h, fun _ => Nat.zero_le _, fun _ => Nat.zero_le _, fun _ => (by decide : (0 : Nat) < 36), fun _ => Nat.zero_le _, fun _ => Nat.zero_le _, fun t h => absurd rfl h⟩
  · exact ⟨fun _ => Nat.zero_le _, fun _ => (by decide : (0 : Nat) < 6), fun t h => absurd rfl h, fun t _ h => absurd rfl h⟩
  · exact fun t c _ _ h => absurd h tn_ov_z
  · exact fun c _ h => absurd rfl h.1
  · exact fun t _ => ⟨fun _ => rfl, fun h => absurd rfl h, fun h => absurd rfl h⟩
  · exact fun t c _ hc => ⟨fun h => absurd h (tn_bt_0 (by omega)), fun h => absurd h tn_ov_z⟩
def tn_in (x : Int32) (a b : Nat) : Prop := ∃ j, a ≤ j ∧ j ≤ b ∧ x = nI j
def tn_gc (x : Int32) : Prop := ∃ c, c < 36 ∧ c / 6 < c % 6 ∧ x = nI c
def tn_ge (x : Int32) : Prop := ∃ e, e < 36 ∧ e / 6 ≠ e % 6 ∧ x = nI e
theorem tn_in_of {x : Int32} {a b : Nat} (ha : a < 2 ^ 31) (hb : b < 2 ^ 31) (h1 : ¬ x < nI a) (h2 : ¬ nI b < x) : tn_in x a b := by
  rw [Int32.lt_iff_toInt_lt, nI_toInt ha] at h1
  rw [Int32.lt_iff_toInt_lt, nI_toInt hb] at h2
  have h0 : ¬ x < 0 := by
    rw [Int32.lt_iff_toInt_lt, show (0 : Int32).toInt = 0 from by decide]
    omega
  obtain ⟨j, hj, rfl⟩ := nI_of h0
  rw [nI_toInt hj] at h1 h2
  exact ⟨j, by omega, by omega, rfl⟩
theorem tn_in_no {x : Int32} {a b : Nat} (hb : b < 2 ^ 31) (h : tn_in x a b) : ¬ x < nI a ∧ ¬ nI b < x := by
  obtain ⟨j, h1, h2, rfl⟩ := h
  exact ⟨nI_nlt h1 (by omega), nI_nlt h2 hb⟩
/-- 'below a, or above b' as it is printed on the reference's side -/
theorem tn_y_in {x : Int32} {A B : Prop} (a b : Nat) (ha : a < 2 ^ 31) (hb : b < 2 ^ 31) (h1 : tn_in x a b → B) (h0 : ¬ tn_in x a b → A) : (x < nI a → A) ∧ (¬ x < nI a → ((nI b < x → A) ∧ (¬ nI b < x → B))) :=
  ⟨fun z => h0 fun y => (tn_in_no hb y).1 z, fun z => ⟨fun w => h0 fun y => (tn_in_no hb y).2 w, fun w => h1 (tn_in_of ha hb z w)⟩⟩
theorem tn_y_in' {x : Int32} {A B : Prop} (a b : Nat) (ha : a < 2 ^ 31) (hb : b < 2 ^ 31) (h1 : tn_in x a b → B) (h0 : ¬ tn_in x a b → A) : (x < nI a → A) ∧ (¬ x < nI a → ((x ≤ nI b → B) ∧ (¬ x ≤ nI b → A))) :=
  ⟨fun z => h0 fun y => (tn_in_no hb y).1 z, fun z => ⟨fun w => h1 (tn_in_of ha hb z (Int32.not_lt.mpr w)), fun w => h0 fun y => w (Int32.not_lt.mp (tn_in_no hb y).2)⟩⟩
theorem tn_x_in {post : Int32 → Prop} {x : Int32} (a b : Nat) (ha : a < 2 ^ 31) (hb : b < 2 ^ 31) (h1 : tn_in x a b → post 1) (h0 : ¬ tn_in x a b → post 0) : wpX_isWithin post x (nI a) (nI b) := tn_y_in a b ha hb h1 h0
theorem tn_x_gc {post : Int32 → Prop} {x : Int32} (h1 : tn_gc x → post 1) (h0 : ¬ tn_gc x → post 0) : wpX_isGoodCode post x := by
  refine tn_x_in 0 35 (by decide) (by decide) (fun z => br_f (by decide) ⟨tn_6, tn_6, ?_⟩) (fun z => br_t rfl (h0 fun ⟨c, a, _, e⟩ => z ⟨c, Nat.zero_le _, by omega, e⟩))
  obtain ⟨j, -, hj, rfl⟩ := z
  rw [tn_r6 (show j < 2 ^ 31 by omega), tn_d6 (show j < 2 ^ 31 by omega)]
  refine pk_le (j % 6) (j / 6) (fun l => h0 fun ⟨c, a, b, e⟩ => ?_) (fun l => h1 ⟨j, by omega, l, rfl⟩)
  rw [nI_eq (by omega) (by omega)] at e
  subst e
  omega
theorem tn_x_ge {post : Int32 → Prop} {x : Int32} (h1 : tn_ge x → post 1) (h0 : ¬ tn_ge x → post 0) : wpX_isGoodEnds post x := by
  refine tn_x_in 0 35 (by decide) (by decide) (fun z => br_f (by decide) ⟨tn_6, tn_6, ?_⟩) (fun z => br_t rfl (h0 fun ⟨c, a, _, e⟩ => z ⟨c, Nat.zero_le _, by omega, e⟩))
  obtain ⟨j, -, hj, rfl⟩ := z
  rw [tn_r6 (show j < 2 ^ 31 by omega), tn_d6 (show j < 2 ^ 31 by omega)]
  refine pk_eq (j / 6) (j % 6) (fun l => h0 fun ⟨c, a, b, e⟩ => ?_) (fun l => h1 ⟨j, by omega, l, rfl⟩)
  rw [nI_eq (by omega) (by omega)] at e
  subst e
  exact b l
theorem tn_x_tn {post : Int32 → Prop} {x : Int32} (h1 : tn_in x 0 7 → post 1) (h0 : ¬ tn_in x 0 7 → post 0) : wpX_isTunnelNumber post x :=
  tn_x_in 0 7 (by decide) (by decide) (fun z => ⟨by decide, h1 z⟩) (fun z => ⟨by decide, h0 z⟩)
theorem tn_x_tm {post : Int32 → Prop} {x : Int32} (h1 : tn_in x 0 31 → post 1) (h0 : ¬ tn_in x 0 31 → post 0) : wpX_isGoodTerms post x :=
  tn_x_in 0 31 (by decide) (by decide) (fun z => ⟨by decide, h1 z⟩) (fun z => ⟨by decide, h0 z⟩)
def tn_of (e b m : Int32) : Prop := tn_ge e ∧ tn_in b 1 100 ∧ tn_in m 0 31
theorem tn_x_of {post : Int32 → Prop} {e b m : Int32} (h1 : tn_of e b m → post 1) (h0 : ¬ tn_of e b m → post 0) : wpX_isGoodOffer post e b m := by
  unfold wpX_isGoodOffer
  refine tn_x_ge (fun z1 => br_f (by decide) ?_) (fun z1 => br_t rfl (h0 fun y => z1 y.1))
  refine tn_x_in 1 100 (by decide) (by decide) (fun z2 => br_f (by decide) ?_) (fun z2 => br_t rfl (h0 fun y => z2 y.2.1))
  exact tn_x_tm (fun z3 => br_f (by decide) (h1 ⟨z1, z2, z3⟩)) (fun z3 => br_t rfl (h0 fun y => z3 y.2.2))
section
variable {fl le bl bc : Int32} {th up cl av st wa op rk fn pa be : Nat → Int32} {co ca en bw pr ln nd : Nat → Nat} {tl : Nat → Int64}
theorem tn_y_gc {post : Int32 → Prop} {x : Int32} (h1 : tn_gc x → post 0) (h0 : ¬ tn_gc x → post 1) : wpY_badCode post (le, bl, bc, th, tn_I co, tn_I ca, cl, up, wa, tn_I en, tn_I bw, tn_I pr, av, tn_I ln, tn_I nd, pa, be) x := by
  refine tn_y_in 0 35 (by decide) (by decide) (fun z => ⟨tn_6, tn_6, ?_⟩) (fun z => h0 fun ⟨c, a, _, e⟩ => z ⟨c, Nat.zero_le _, by omega, e⟩)
  obtain ⟨j, -, hj, rfl⟩ := z
  rw [tn_r6 (show j < 2 ^ 31 by omega), tn_d6 (show j < 2 ^ 31 by omega)]
  refine pk_lt (j / 6) (j % 6) (fun l => h1 ⟨j, by omega, l, rfl⟩) (fun l => h0 fun ⟨c, a, b, e⟩ => ?_)
  rw [nI_eq (by omega) (by omega)] at e
  subst e
  omega
theorem tn_y_ge {post : Int32 → Prop} {x : Int32} (h1 : tn_ge x → post 0) (h0 : ¬ tn_ge x → post 1) : wpY_badEnds post (le, bl, bc, th, tn_I co, tn_I ca, cl, up, wa, tn_I en, tn_I bw, tn_I pr, av, tn_I ln, tn_I nd, pa, be) x := by
  refine tn_y_in 0 35 (by decide) (by decide) (fun z => ⟨tn_6, tn_6, ?_⟩) (fun z => h0 fun ⟨c, a, _, e⟩ => z ⟨c, Nat.zero_le _, by omega, e⟩)
  obtain ⟨j, -, hj, rfl⟩ := z
  rw [tn_r6 (show j < 2 ^ 31 by omega), tn_d6 (show j < 2 ^ 31 by omega)]
  refine pk_eq (j / 6) (j % 6) (fun l => h0 fun ⟨c, a, b, e⟩ => ?_) (fun l => h1 ⟨j, by omega, l, rfl⟩)
  rw [nI_eq (by omega) (by omega)] at e
  subst e
  exact b l
theorem tn_y_tn {post : Int32 → Prop} {x : Int32} (h1 : tn_in x 0 7 → post 0) (h0 : ¬ tn_in x 0 7 → post 1) : wpY_badTunnel post (le, bl, bc, th, tn_I co, tn_I ca, cl, up, wa, tn_I en, tn_I bw, tn_I pr, av, tn_I ln, tn_I nd, pa, be) x := tn_y_in' 0 7 (by decide) (by decide) h1 h0
theorem tn_y_tm {post : Int32 → Prop} {x : Int32} (h1 : tn_in x 0 31 → post 0) (h0 : ¬ tn_in x 0 31 → post 1) : wpY_badTerms post (le, bl, bc, th, tn_I co, tn_I ca, cl, up, wa, tn_I en, tn_I bw, tn_I pr, av, tn_I ln, tn_I nd, pa, be) x := tn_y_in' 0 31 (by decide) (by decide) h1 h0
theorem tn_settle (hF : tn_FX th wa co ca en bw pr) (hM : tn_MV wa en ln nd) :
    ∃ ln' nd', tn_MV wa en ln' nd' ∧ tn_OK th up cl av ln' nd' ∧ (∀ c, c < 36 → ¬ tn_OL th ca bw ln' nd' c) ∧
      (∀ (post : SX → Prop) (fl : Int32) (st : Nat → Int32) (tl : Nat → Int64) (op rk fn : Nat → Int32), tn_SX st wa ln → tn_TL tl ln nd → (∀ (fl' : Int32) (st' : Nat → Int32) (tl' : Nat → Int64) (op' rk' fn' : Nat → Int32), tn_SX st' wa ln' → tn_TL tl' ln' nd' → post (fl', th, up, tn_I co, tn_I ca, cl, st', tn_I en, tn_I bw, tn_I pr, av, tl', tn_I nd', tn_I ln', op', rk', fn')) → wpX_settle post (fl, th, up, tn_I co, tn_I ca, cl, st, tn_I en, tn_I bw, tn_I pr, av, tl, tn_I nd, tn_I ln, op, rk, fn)) ∧
      (∀ (post : Int32 → SY → Prop) (le bl bc : Int32) (pa be : Nat → Int32), (∀ (le' bl' bc' : Int32) (pa' be' : Nat → Int32), post (nI (tn_np ln')) (le', bl', bc', th, tn_I co, tn_I ca, cl, up, wa, tn_I en, tn_I bw, tn_I pr, av, tn_I ln', tn_I nd', pa', be')) → wpY_settle post (le, bl, bc, th, tn_I co, tn_I ca, cl, up, wa, tn_I en, tn_I bw, tn_I pr, av, tn_I ln, tn_I nd, pa, be)) := by
  have L : tn_LQ th ca bw pr (tn_H th up cl av nd ln 8) nd 0 := by
    intro c hc ht
    have : tn_lq bw pr (tn_H th up cl av nd ln 8) nd 0 c ≤ 8 * 0 := tn_sm_bd fun t _ => Nat.le_of_eq (tn_q_f fun y => absurd y.2 (Nat.not_lt_zero _))
    omega
  obtain ⟨ln', nd', M', O', N', X', ny, Y'⟩ := tn_rounds (up := up) (cl := cl) (av := av) hF 5833 0 0 (tn_H th up cl av nd ln 8) nd (by omega) (Nat.zero_le _) (tn_H_MV hM 8) (fun t c ht hc h => (tn_H_ov 8 t c h).2 ht hc) L
  obtain ⟨nx, hx⟩ := X' 0 (Nat.le_refl _)
  refine ⟨ln', nd', M', O', N', fun post fl st tl op rk fn S T h => ?_, fun post le bl bc pa be h => ?_⟩
  · exact tn_x_drop hM S T fun st' tl' S' T' => ⟨nx, hx post fl st' tl' op rk fn S' T' h⟩
  · exact tn_y_drop hM ⟨ny, Y' post le bl bc pa be h⟩
end
