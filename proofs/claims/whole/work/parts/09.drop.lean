/-! broken tunnels, overloaded links, their victims, the count -/
def tn_SX (st wa : Nat → Int32) (ln : Nat → Nat) : Prop := ∀ t, t < 8 → (wa t = 0 → st t = 0) ∧ (wa t ≠ 0 → ln t = 0 → st t = 1) ∧ (wa t ≠ 0 → ln t ≠ 0 → st t = 2)
def tn_MV (wa : Nat → Int32) (en ln nd : Nat → Nat) : Prop :=
  (∀ t, ln t ≤ 6) ∧ (∀ i, nd i < 6) ∧ (∀ t, ln t ≠ 0 → wa t ≠ 0) ∧ ∀ t, t < 8 → ln t ≠ 0 → ∃ b n, b < 5 ∧ n < 6 ^ b ∧ tn_DI (en t) b n ∧ ln t = b + 2 ∧ ∀ i, i < b + 2 → nd (6 * t + i) = tn_pt (en t) b n i
theorem tn_MV_drop {wa : Nat → Int32} {en ln nd : Nat → Nat} {t : Nat} (h : tn_MV wa en ln nd) : tn_MV wa en (tn_up ln t 0) nd := by
  obtain ⟨h1, h2, h3, h4⟩ := h
  refine ⟨tn_up_le h1 (by omega), h2, fun s hs => ?_, fun s hs hl => ?_⟩
  · by_cases z : s = t
    · subst z; rw [tn_up_s] at hs; exact absurd rfl hs
    · rw [tn_up_n z] at hs; exact h3 s hs
  · by_cases z : s = t
    · subst z; rw [tn_up_s] at hl; exact absurd rfl hl
    · rw [tn_up_n z] at hl ⊢; exact h4 s hs hl
theorem tn_SX_drop {st wa : Nat → Int32} {ln : Nat → Nat} {t : Nat} (h : tn_SX st wa ln) (hw : wa t ≠ 0) : tn_SX (upd st t 1) wa (tn_up ln t 0) := by
  intro s hs
  by_cases z : s = t
  · subst z
    rw [pk_us, tn_up_s]
    exact ⟨fun y => absurd y hw, fun _ _ => rfl, fun _ y => absurd rfl y⟩
  · rw [pk_un z, tn_up_n z]
    exact h s hs
theorem tn_ov_ne {ln nd : Nat → Nat} {t c : Nat} (h : tn_ov ln nd t c) : ln t ≠ 0 := by
  obtain ⟨i, a, -⟩ := h
  omega
/-- what one step of the drop does -/
noncomputable def tn_F (th up cl av : Nat → Int32) (nd : Nat → Nat) (t c : Nat) (l : Nat → Nat) : Nat → Nat := @ite _ (tn_ov l nd t c ∧ ¬ tn_OP th up cl (av t) c) (Classical.propDecidable _) (tn_up l t 0) l
noncomputable def tn_G (th up cl av : Nat → Int32) (nd : Nat → Nat) (t : Nat) (l : Nat → Nat) : Nat → Nat → Nat
  | 0 => l
  | c + 1 => tn_F th up cl av nd t c (tn_G th up cl av nd t l c)
noncomputable def tn_H (th up cl av : Nat → Int32) (nd : Nat → Nat) (l : Nat → Nat) : Nat → Nat → Nat
  | 0 => l
  | t + 1 => tn_G th up cl av nd t (tn_H th up cl av nd l t) 36
section
variable {fl le bl bc : Int32} {th up cl av st wa op rk fn pa be : Nat → Int32} {co ca en bw pr ln nd : Nat → Nat} {tl : Nat → Int64}
theorem tn_F_t {t c : Nat} {l : Nat → Nat} (h : tn_ov l nd t c) (h2 : ¬ tn_OP th up cl (av t) c) : tn_F th up cl av nd t c l = tn_up l t 0 := by unfold tn_F; rw [if_pos ⟨h, h2⟩]
theorem tn_F_f {t c : Nat} {l : Nat → Nat} (h : ¬ (tn_ov l nd t c ∧ ¬ tn_OP th up cl (av t) c)) : tn_F th up cl av nd t c l = l := by unfold tn_F; rw [if_neg h]
theorem tn_G_MV {t : Nat} (h : tn_MV wa en ln nd) : ∀ c, tn_MV wa en (tn_G th up cl av nd t ln c) nd
  | 0 => h
  | c + 1 => by
    have a := tn_G_MV (t := t) h c
    simp only [tn_G]
    rcases Classical.em (tn_ov (tn_G th up cl av nd t ln c) nd t c ∧ ¬ tn_OP th up cl (av t) c) with z | z
    · rw [tn_F_t z.1 z.2]; exact tn_MV_drop a
    · rw [tn_F_f z]; exact a
theorem tn_H_MV (h : tn_MV wa en ln nd) : ∀ t, tn_MV wa en (tn_H th up cl av nd ln t) nd
  | 0 => h
  | t + 1 => tn_G_MV (tn_H_MV h t) 36
theorem tn_G_ov {t : Nat} : ∀ c s d, tn_ov (tn_G th up cl av nd t ln c) nd s d → tn_ov ln nd s d ∧ (s = t → d < c → tn_OP th up cl (av t) d)
  | 0, s, d, h => ⟨h, fun _ z => absurd z (Nat.not_lt_zero d)⟩
  | c + 1, s, d, h => by
    simp only [tn_G] at h
    rcases Classical.em (tn_ov (tn_G th up cl av nd t ln c) nd t c ∧ ¬ tn_OP th up cl (av t) c) with z | z
    · rw [tn_F_t z.1 z.2] at h
      by_cases y : s = t
      · subst y; exact absurd h tn_ov_0
      · rw [tn_ov_n y] at h
        exact ⟨(tn_G_ov c s d h).1, fun w => absurd w y⟩
    · rw [tn_F_f z] at h
      have q := tn_G_ov c s d h
      refine ⟨q.1, fun w1 w2 => ?_⟩
      by_cases y : d = c
      · subst y; subst w1
        exact Classical.byContradiction fun o => z ⟨h, o⟩
      · exact q.2 w1 (by omega)
theorem tn_H_ov : ∀ t s d, tn_ov (tn_H th up cl av nd ln t) nd s d → tn_ov ln nd s d ∧ (s < t → d < 36 → tn_OP th up cl (av s) d)
  | 0, s, d, h => ⟨h, fun z => absurd z (Nat.not_lt_zero s)⟩
  | t + 1, s, d, h => by
    have a := tn_G_ov 36 s d h
    have b := tn_H_ov t s d a.1
    refine ⟨b.1, fun z1 z2 => ?_⟩
    by_cases y : s = t
    · subst y; exact a.2 rfl z2
    · exact b.2 (by omega) z2
theorem tn_x_drop {post : SX → Prop} (hM : tn_MV wa en ln nd) (hS : tn_SX st wa ln) (hT : tn_TL tl ln nd)
    (h : ∀ (st' : Nat → Int32) (tl' : Nat → Int64), tn_SX st' wa (tn_H th up cl av nd ln 8) → tn_TL tl' (tn_H th up cl av nd ln 8) nd → post (fl, th, up, tn_I co, tn_I ca, cl, st', tn_I en, tn_I bw, tn_I pr, av, tl', tn_I nd, tn_I (tn_H th up cl av nd ln 8), op, rk, fn)) : wpX_dropBroken post (fl, th, up, tn_I co, tn_I ca, cl, st, tn_I en, tn_I bw, tn_I pr, av, tl, tn_I nd, tn_I ln, op, rk, fn) := by
  have inner : ∀ (J : Int32 → Int32 → (Nat → Int32) → (Nat → Int32) → (Nat → Int32) → (Nat → Int32) → (Nat → Int32) → (Nat → Int32) → (Nat → Int32) → (Nat → Int32) → (Nat → Int32) → (Nat → Int32) → (Nat → Int64) → (Nat → Int32) → (Nat → Int32) → (Nat → Int32) → (Nat → Int32) → (Nat → Int32) → Prop) (t : Nat) (l : Nat → Nat), t < 8 → tn_MV wa en l nd →
      (∀ (st' : Nat → Int32) (tl' : Nat → Int64), tn_SX st' wa (tn_G th up cl av nd t l 36) → tn_TL tl' (tn_G th up cl av nd t l 36) nd → J (nI (t + 1)) fl th up (tn_I co) (tn_I ca) cl st' (tn_I en) (tn_I bw) (tn_I pr) av tl' (tn_I nd) (tn_I (tn_G th up cl av nd t l 36)) op rk fn) →
      ∀ d c (st : Nat → Int32) (tl : Nat → Int64), c + d = 36 → tn_SX st wa (tn_G th up cl av nd t l c) → tn_TL tl (tn_G th up cl av nd t l c) nd → wX_dropBroken_10 post J (nI t) (d + 1) (nI c) fl th up (tn_I co) (tn_I ca) cl st (tn_I en) (tn_I bw) (tn_I pr) av tl (tn_I nd) (tn_I (tn_G th up cl av nd t l c)) op rk fn := by
    intro J t l ht hMl hJ d
    induction d with
    | zero =>
      intro c st tl hc S T
      have : c = 36 := by omega
      subst this
      exact br_t (by decide) (nm_r (nI_1 t) (hJ st tl S T))
    | succ d ih =>
      intro c st tl hc S T
      have stay : ¬ (tn_ov (tn_G th up cl av nd t l c) nd t c ∧ ¬ tn_OP th up cl (av t) c) → wX_dropBroken_10 post J (nI t) (d + 1) (nI (c + 1)) fl th up (tn_I co) (tn_I ca) cl st (tn_I en) (tn_I bw) (tn_I pr) av tl (tn_I nd) (tn_I (tn_G th up cl av nd t l c)) op rk fn := by
        intro z
        have q := ih (c + 1) st tl (by omega)
        simp only [tn_G, tn_F_f z] at q
        exact q S T
      rw [wX_dropBroken_10]
      refine br_f (tn_i36 (by omega)) (tn_x_isOver ht (by omega) T (fun z => br_f (by decide) ⟨tn_v8 ht, ?_⟩) (fun z => br_t rfl (nm_r (nI_1 c) (stay fun y => z y.1))))
      rw [tn_cl av (by omega)]
      refine tn_x_use (by omega) (fun o => br_f (by decide) (nm_r (nI_1 c) (stay fun y => y.2 o))) (fun o => br_t rfl (tn_x_idle ht (nm_r (nI_1 c) ?_)))
      have q := ih (c + 1) (upd st t 1) (vp_updL tl t 0) (by omega)
      simp only [tn_G, tn_F_t z o] at q
      exact q (tn_SX_drop S ((tn_G_MV hMl c).2.2.1 t (tn_ov_ne z))) (tn_TL_idle T)
  have outer : ∀ d t (st : Nat → Int32) (tl : Nat → Int64), t + d = 8 → tn_SX st wa (tn_H th up cl av nd ln t) → tn_TL tl (tn_H th up cl av nd ln t) nd → wX_dropBroken_2 post (d + 1) (nI t) fl th up (tn_I co) (tn_I ca) cl st (tn_I en) (tn_I bw) (tn_I pr) av tl (tn_I nd) (tn_I (tn_H th up cl av nd ln t)) op rk fn := by
    intro d
    induction d with
    | zero =>
      intro t st tl ht S T
      have : t = 8 := by omega
      subst this
      exact br_t (by decide) (h st tl S T)
    | succ d ih =>
      intro t st tl ht S T
      exact br_f (tn_i8 (by omega)) ⟨37, inner _ t _ (by omega) (tn_H_MV hM t) (fun st' tl' S' T' => ih (t + 1) st' tl' (by omega) S' T') 36 0 st tl (by omega) S T⟩
  exact ⟨9, outer 8 0 st tl (by omega) hS hT⟩
theorem tn_y_drop {post : SY → Prop} (hM : tn_MV wa en ln nd) (h : post (le, bl, bc, th, tn_I co, tn_I ca, cl, up, wa, tn_I en, tn_I bw, tn_I pr, av, tn_I (tn_H th up cl av nd ln 8), tn_I nd, pa, be)) : wpY_pushFromClosed post (le, bl, bc, th, tn_I co, tn_I ca, cl, up, wa, tn_I en, tn_I bw, tn_I pr, av, tn_I ln, tn_I nd, pa, be) := by
  have inner : ∀ (J : Int32 → (Nat → Int32) → (Nat → Int32) → (Nat → Int32) → (Nat → Int32) → (Nat → Int32) → (Nat → Int32) → (Nat → Int32) → (Nat → Int32) → (Nat → Int32) → (Nat → Int32) → (Nat → Int32) → (Nat → Int32) → (Nat → Int32) → (Nat → Int32) → Prop) (t : Nat) (l : Nat → Nat), t < 8 → tn_MV wa en l nd →
      J (nI (t + 1)) th (tn_I co) (tn_I ca) cl up wa (tn_I en) (tn_I bw) (tn_I pr) av (tn_I (tn_G th up cl av nd t l 36)) (tn_I nd) pa be →
      ∀ d c, c + d = 36 → wY_pushFromClosed_10 post J (nI t) le bl bc (d + 1) (nI c) th (tn_I co) (tn_I ca) cl up wa (tn_I en) (tn_I bw) (tn_I pr) av (tn_I (tn_G th up cl av nd t l c)) (tn_I nd) pa be := by
    intro J t l ht hMl hJ d
    induction d with
    | zero =>
      intro c hc
      have : c = 36 := by omega
      subst this
      exact br_t (by decide) (nm_r (nI_1 t) hJ)
    | succ d ih =>
      intro c hc
      have q := ih (c + 1) (by omega)
      have M := tn_G_MV (th := th) (up := up) (cl := cl) (av := av) (t := t) hMl c
      have stay : ¬ (tn_ov (tn_G th up cl av nd t l c) nd t c ∧ ¬ tn_OP th up cl (av t) c) → wY_pushFromClosed_10 post J (nI t) le bl bc (d + 1) (nI (c + 1)) th (tn_I co) (tn_I ca) cl up wa (tn_I en) (tn_I bw) (tn_I pr) av (tn_I (tn_G th up cl av nd t l c)) (tn_I nd) pa be := by
        intro z
        simp only [tn_G, tn_F_f z] at q
        exact q
      rw [wY_pushFromClosed_10]
      refine br_f (tn_i36 (by omega)) (tn_y_isOver ht (by omega) M.1 M.2.1 (fun z => br_f (by decide) ⟨tn_v8 ht, ?_⟩) (fun z => br_t rfl (nm_r (nI_1 c) (stay fun y => z y.1))))
      rw [tn_cl av (by omega)]
      refine tn_y_use (by omega) (fun o => br_f (by decide) (nm_r (nI_1 c) (stay fun y => y.2 o))) (fun o => br_t rfl ⟨tn_v8 ht, nm_r ((congrArg (fun z => upd (tn_I (tn_G th up cl av nd t l c)) z 0) (nI_clamp (by omega))).trans (tn_up_I _ t 0)) (nm_r (nI_1 c) ?_)⟩)
      simp only [tn_G, tn_F_t z o] at q
      exact q
  have outer : ∀ d t, t + d = 8 → wY_pushFromClosed_2 post le bl bc (d + 1) (nI t) th (tn_I co) (tn_I ca) cl up wa (tn_I en) (tn_I bw) (tn_I pr) av (tn_I (tn_H th up cl av nd ln t)) (tn_I nd) pa be := by
    intro d
    induction d with
    | zero =>
      intro t ht
      have : t = 8 := by omega
      subst this
      exact br_t (by decide) h
    | succ d ih =>
      intro t ht
      exact br_f (tn_i8 (by omega)) ⟨37, inner _ t _ (by omega) (tn_H_MV hM t) (ih (t + 1) (by omega)) 36 0 (by omega)⟩
  exact ⟨9, outer 8 0 (by omega)⟩
def tn_VI (pr ln nd : Nat → Nat) (c o : Nat) : Prop := o < 8 ∧ tn_ov ln nd o c ∧ ∀ s, s < 8 → tn_ov ln nd s c → pr s < pr o ∨ (pr s = pr o ∧ s ≤ o)
theorem tn_VI_uniq {c o o' : Nat} (h : tn_VI pr ln nd c o) (h' : tn_VI pr ln nd c o') : o = o' := by
  have a := h.2.2 o' h'.1 h'.2.1
  have b := h'.2.2 o h.1 h.2.1
  omega
theorem tn_x_least {post : Int32 → Prop} {c : Nat} (hc : c < 36) (hpr : ∀ t, pr t ≤ 3) (hT : tn_TL tl ln nd) (hx : ∃ t, t < 8 ∧ tn_ov ln nd t c) (h : ∀ o, tn_VI pr ln nd c o → post (nI o)) : wpX_leastUrgentOver post (fl, th, up, tn_I co, tn_I ca, cl, st, tn_I en, tn_I bw, tn_I pr, av, tl, tn_I nd, tn_I ln, op, rk, fn) (nI c) := by
  have key : ∀ d i (x y : Int32), i + d = 8 → ((x = -1 ∧ y = 0 ∧ ∀ s, s < i → ¬ tn_ov ln nd s c) ∨ ∃ o, o < i ∧ x = nI o ∧ y = nI (pr o) ∧ tn_ov ln nd o c ∧ ∀ s, s < i → tn_ov ln nd s c → pr s < pr o ∨ (pr s = pr o ∧ s ≤ o)) → wX_leastUrgentOver_7 post (nI c) fl th up (tn_I co) (tn_I ca) cl st (tn_I en) (tn_I bw) (tn_I pr) av tl (tn_I nd) (tn_I ln) op rk fn (d + 1) x y (nI i) := by
    intro d
    induction d with
    | zero =>
      intro i x y hi I
      have : i = 8 := by omega
      subst this
      rcases I with ⟨-, -, I⟩ | ⟨o, ho, rfl, -, a, b⟩
      · obtain ⟨t, ht, z⟩ := hx
        exact absurd z (I t ht)
      · exact br_t (by decide) (h o ⟨ho, a, b⟩)
    | succ d ih =>
      intro i x y hi I
      have p3 := hpr i
      refine br_f (tn_i8 (by omega)) (tn_x_isOver (by omega) hc hT (fun z => br_f (by decide) ⟨tn_v8 (by omega), ?_⟩) (fun z => br_t rfl (nm_r (nI_1 i) (ih (i + 1) x y (by omega) ?_))))
      · rw [tn_cl (tn_I pr) (by omega)]
        rcases I with ⟨rfl, rfl, I⟩ | ⟨o, ho, rfl, rfl, a, b⟩
        · refine br_f (nI_pos (by omega)) ⟨tn_v8 (by omega), nm_e (nm_r (nI_1 i) (ih (i + 1) _ _ (by omega) (Or.inr ⟨i, by omega, rfl, rfl, z, fun s hs hv => ?_⟩)))⟩
          by_cases y : s = i
          · subst y; exact Or.inr ⟨rfl, Nat.le_refl _⟩
          · exact absurd hv (I s (by omega))
        · have p4 := hpr o
          refine pk_lt (pr i) (pr o) (fun l => nm_r (nI_1 i) (ih (i + 1) _ _ (by omega) (Or.inr ⟨o, by omega, rfl, rfl, a, fun s hs hv => ?_⟩))) (fun l => ⟨tn_v8 (by omega), nm_e (nm_r (nI_1 i) (ih (i + 1) _ _ (by omega) (Or.inr ⟨i, by omega, rfl, rfl, z, fun s hs hv => ?_⟩)))⟩)
          · by_cases y : s = i
            · subst y; exact Or.inl l
            · exact b s (by omega) hv
          · by_cases y : s = i
            · subst y; exact Or.inr ⟨rfl, Nat.le_refl _⟩
            · have := b s (by omega) hv
              omega
      · rcases I with ⟨e1, e2, I⟩ | ⟨o, ho, e1, e2, a, b⟩
        · refine Or.inl ⟨e1, e2, fun s hs => ?_⟩
          by_cases y : s = i
          · subst y; exact z
          · exact I s (by omega)
        · refine Or.inr ⟨o, by omega, e1, e2, a, fun s hs hv => ?_⟩
          by_cases y : s = i
          · subst y; exact absurd hv z
          · exact b s (by omega) hv
  exact ⟨9, key 8 0 (-1) 0 (by omega) (Or.inl ⟨rfl, rfl, fun s hs => absurd hs (Nat.not_lt_zero s)⟩)⟩
def tn_OL (th : Nat → Int32) (ca bw ln nd : Nat → Nat) (c : Nat) : Prop := th c ≠ 0 ∧ ca c < tn_ld bw ln nd c
theorem tn_x_first {post : Int32 → Prop} (hca : ∀ c, ca c ≤ 100) (hbw : ∀ t, bw t ≤ 100) (hT : tn_TL tl ln nd) (h0 : (∀ c, c < 36 → ¬ tn_OL th ca bw ln nd c) → post (-1)) (h1 : ∀ c, c < 36 → tn_OL th ca bw ln nd c → (∀ d, d < c → ¬ tn_OL th ca bw ln nd d) → post (nI c)) : wpX_firstOverloaded post (fl, th, up, tn_I co, tn_I ca, cl, st, tn_I en, tn_I bw, tn_I pr, av, tl, tn_I nd, tn_I ln, op, rk, fn) := by
  have key : ∀ d i, i + d = 36 → (∀ c, c < i → ¬ tn_OL th ca bw ln nd c) → wX_firstOverloaded_2 post fl th up (tn_I co) (tn_I ca) cl st (tn_I en) (tn_I bw) (tn_I pr) av tl (tn_I nd) (tn_I ln) op rk fn (d + 1) (nI i) := by
    intro d
    induction d with
    | zero =>
      intro i hi I
      have : i = 36 := by omega
      subst this
      exact br_t (by decide) (h0 I)
    | succ d ih =>
      intro i hi I
      have nx : ¬ tn_OL th ca bw ln nd i → wX_firstOverloaded_2 post fl th up (tn_I co) (tn_I ca) cl st (tn_I en) (tn_I bw) (tn_I pr) av tl (tn_I nd) (tn_I ln) op rk fn (d + 1) (nI (i + 1)) := fun z => ih (i + 1) (by omega) fun c hc => by
        by_cases y : c = i
        · subst y; exact z
        · exact I c (by omega)
      have l1 := hca i
      have l2 := tn_ld_le (ln := ln) (nd := nd) hbw i
      refine br_f (tn_i36 (by omega)) ⟨tn_v36 (by omega), ?_⟩
      rw [tn_cl th (by omega)]
      refine br_c (fun z => nm_r (nI_1 i) (nx fun y => y.1 z)) (fun z => tn_x_load (by omega) hT ⟨tn_v36 (by omega), ?_⟩)
      rw [tn_cl (tn_I ca) (by omega)]
      exact pk_le (tn_ld bw ln nd i) (ca i) (fun l => nm_r (nI_1 i) (nx fun y => by have := y.2; omega)) (fun l => h1 i (by omega) ⟨z, l⟩ I)
  exact ⟨37, key 36 0 (by omega) (fun c hc => absurd hc (Nat.not_lt_zero c))⟩
theorem tn_y_full {post : Int32 → SY → Prop} (hca : ∀ c, ca c ≤ 100) (hbw : ∀ t, bw t ≤ 100) (hpr : ∀ t, pr t ≤ 3) (hl : ∀ t, ln t ≤ 6) (hn : ∀ i, nd i < 6) (h0 : (∀ c, c < 36 → ¬ tn_OL th ca bw ln nd c) → post 0 (le, bl, bc, th, tn_I co, tn_I ca, cl, up, wa, tn_I en, tn_I bw, tn_I pr, av, tn_I ln, tn_I nd, pa, be)) (h1 : ∀ c o, c < 36 → tn_OL th ca bw ln nd c → (∀ d, d < c → ¬ tn_OL th ca bw ln nd d) → tn_VI pr ln nd c o → post 1 (le, bl, bc, th, tn_I co, tn_I ca, cl, up, wa, tn_I en, tn_I bw, tn_I pr, av, tn_I (tn_up ln o 0), tn_I nd, pa, be)) : wpY_pushFromFull post (le, bl, bc, th, tn_I co, tn_I ca, cl, up, wa, tn_I en, tn_I bw, tn_I pr, av, tn_I ln, tn_I nd, pa, be) := by
  have vic : ∀ c, c < 36 → tn_OL th ca bw ln nd c → (∀ d, d < c → ¬ tn_OL th ca bw ln nd d) → ∀ d i (x : Int32), i + d = 8 → ((x = -1 ∧ ∀ s, s < i → ¬ tn_ov ln nd s c) ∨ ∃ o, o < i ∧ x = nI o ∧ tn_ov ln nd o c ∧ ∀ s, s < i → tn_ov ln nd s c → pr s < pr o ∨ (pr s = pr o ∧ s ≤ o)) → wY_pushFromFull_31 post (nI c) le bl bc th (tn_I co) (tn_I ca) cl up wa (tn_I en) (tn_I bw) (tn_I pr) av (tn_I ln) (tn_I nd) pa be (d + 1) x (nI i) := by
    intro c hc hO hle d
    induction d with
    | zero =>
      intro i x hi I
      have : i = 8 := by omega
      subst this
      rcases I with ⟨-, I⟩ | ⟨o, ho, rfl, a, b⟩
      · have hp : 0 < tn_ld bw ln nd c := by have := hO.2; omega
        obtain ⟨t, ht, z⟩ := tn_sm_pos hp
        rw [tn_q_f (I t ht)] at z
        omega
      · exact br_t (by decide) ⟨tn_v8 ho, nm_r ((congrArg (fun z => upd (tn_I ln) z 0) (nI_clamp (by omega))).trans (tn_up_I ln o 0)) (h1 c o hc hO hle ⟨ho, a, b⟩)⟩
    | succ d ih =>
      intro i x hi I
      have p3 := hpr i
      refine br_f (tn_i8 (by omega)) (tn_y_isOver (by omega) hc hl hn (fun z => br_f (by decide) ?_) (fun z => br_t rfl (nm_r (nI_1 i) (ih (i + 1) x (by omega) ?_))))
      · rcases I with ⟨rfl, I⟩ | ⟨o, ho, rfl, a, b⟩
        · refine br_t (by decide) (nm_r (nI_1 i) (ih (i + 1) _ (by omega) (Or.inr ⟨i, by omega, rfl, z, fun s hs hv => ?_⟩)))
          by_cases y : s = i
          · subst y; exact Or.inr ⟨rfl, Nat.le_refl _⟩
          · exact absurd hv (I s (by omega))
        · have p4 := hpr o
          refine br_f (nI_pos (by omega)) ⟨tn_v8 (by omega), tn_v8 (by omega), ?_⟩
          rw [tn_cl (tn_I pr) (by omega), tn_cl (tn_I pr) (by omega)]
          refine pk_lt (pr i) (pr o) (fun l => nm_r (nI_1 i) (ih (i + 1) _ (by omega) (Or.inr ⟨o, by omega, rfl, a, fun s hs hv => ?_⟩))) (fun l => nm_r (nI_1 i) (ih (i + 1) _ (by omega) (Or.inr ⟨i, by omega, rfl, z, fun s hs hv => ?_⟩)))
          · by_cases y : s = i
            · subst y; exact Or.inl l
            · exact b s (by omega) hv
          · by_cases y : s = i
            · subst y; exact Or.inr ⟨rfl, Nat.le_refl _⟩
            · have := b s (by omega) hv
              omega
      · rcases I with ⟨e1, I⟩ | ⟨o, ho, e1, a, b⟩
        · refine Or.inl ⟨e1, fun s hs => ?_⟩
          by_cases y : s = i
          · subst y; exact z
          · exact I s (by omega)
        · refine Or.inr ⟨o, by omega, e1, a, fun s hs hv => ?_⟩
          by_cases y : s = i
          · subst y; exact absurd hv z
          · exact b s (by omega) hv
  have key : ∀ d i, i + d = 36 → (∀ c, c < i → ¬ tn_OL th ca bw ln nd c) → wY_pushFromFull_2 post le bl bc th (tn_I co) (tn_I ca) cl up wa (tn_I en) (tn_I bw) (tn_I pr) av (tn_I ln) (tn_I nd) pa be (d + 1) (nI i) := by
    intro d
    induction d with
    | zero =>
      intro i hi I
      have : i = 36 := by omega
      subst this
      exact br_t (by decide) (h0 I)
    | succ d ih =>
      intro i hi I
      have nx : ¬ tn_OL th ca bw ln nd i → wY_pushFromFull_2 post le bl bc th (tn_I co) (tn_I ca) cl up wa (tn_I en) (tn_I bw) (tn_I pr) av (tn_I ln) (tn_I nd) pa be (d + 1) (nI (i + 1)) := fun z => ih (i + 1) (by omega) fun c hc => by
        by_cases y : c = i
        · subst y; exact z
        · exact I c (by omega)
      have l1 := hca i
      have l2 := tn_ld_le (ln := ln) (nd := nd) hbw i
      refine br_f (tn_i36 (by omega)) ⟨tn_v36 (by omega), ?_⟩
      rw [tn_cl th (by omega)]
      refine br_c (fun z => nm_r (nI_1 i) (nx fun y => y.1 z)) (fun z => tn_y_room (p := 3) (by omega) (by decide) hpr hl hn ?_)
      rw [tn_tk_ld hpr]
      have e : (0 : Int32) ≤ nI (ca i) - nI (tn_ld bw ln nd i) ↔ tn_ld bw ln nd i ≤ ca i := by
        rw [Int32.le_iff_toInt_le, pk_sub_toInt (by omega) (by omega), show (0 : Int32).toInt = 0 from by decide]
        omega
      refine br_c (fun l => nm_r (nI_1 i) (nx fun y => by have := y.2; have := e.1 l; omega)) (fun l => ⟨9, vic i (by omega) ⟨z, ?_⟩ I 8 0 (-1) (by omega) (Or.inl ⟨rfl, fun s hs => absurd hs (Nat.not_lt_zero s)⟩)⟩)
      have : ¬ tn_ld bw ln nd i ≤ ca i := fun y => l (e.2 y)
      omega
  exact ⟨37, key 36 0 (by omega) (fun c hc => absurd hc (Nat.not_lt_zero c))⟩
noncomputable def tn_np (ln : Nat → Nat) : Nat := tn_sm (fun t => tn_q (ln t ≠ 0) 1) 8
theorem tn_x_count {post : Int32 → Prop} (hM : ∀ t, ln t ≠ 0 → wa t ≠ 0) (hS : tn_SX st wa ln) (h : post (nI (tn_np ln))) : wpX_countPlaced post (fl, th, up, tn_I co, tn_I ca, cl, st, tn_I en, tn_I bw, tn_I pr, av, tl, tn_I nd, tn_I ln, op, rk, fn) := by
  have key : ∀ d i, i + d = 8 → wX_countPlaced_4 post fl th up (tn_I co) (tn_I ca) cl st (tn_I en) (tn_I bw) (tn_I pr) av tl (tn_I nd) (tn_I ln) op rk fn (d + 1) (nI (tn_sm (fun t => tn_q (ln t ≠ 0) 1) i)) (nI i) := by
    intro d
    induction d with
    | zero =>
      intro i hi
      have : i = 8 := by omega
      subst this
      exact br_t (by decide) h
    | succ d ih =>
      intro i hi
      have q := ih (i + 1) (by omega)
      have S := hS i (by omega)
      refine br_f (tn_i8 (by omega)) ⟨tn_v8 (by omega), ?_⟩
      rw [tn_cl st (by omega)]
      by_cases z : ln i = 0
      · have e : ¬ st i = 2 := by
          by_cases y : wa i = 0
          · rw [S.1 y]; decide
          · rw [S.2.1 y z]; decide
        refine br_f e (nm_r (nI_1 i) ?_)
        simp only [tn_sm, tn_q_f (show ¬ (ln i ≠ 0) from fun y => y z), Nat.add_zero] at q
        exact q
      · refine br_t (S.2.2 (hM i z) z) (nm_r (nI_1 _) (nm_r (nI_1 i) ?_))
        simp only [tn_sm, tn_q_t (show ln i ≠ 0 from z)] at q
        exact q
  exact ⟨9, key 8 0 (by omega)⟩
theorem tn_y_count {post : Int32 → Prop} (hl : ∀ t, ln t ≤ 6) (h : post (nI (tn_np ln))) : wpY_countPlaced post (le, bl, bc, th, tn_I co, tn_I ca, cl, up, wa, tn_I en, tn_I bw, tn_I pr, av, tn_I ln, tn_I nd, pa, be) := by
  have key : ∀ d i, i + d = 8 → wY_countPlaced_4 post le bl bc th (tn_I co) (tn_I ca) cl up wa (tn_I en) (tn_I bw) (tn_I pr) av (tn_I ln) (tn_I nd) pa be (d + 1) (nI (tn_sm (fun t => tn_q (ln t ≠ 0) 1) i)) (nI i) := by
    intro d
    induction d with
    | zero =>
      intro i hi
      have : i = 8 := by omega
      subst this
      exact br_t (by decide) h
    | succ d ih =>
      intro i hi
      have q := ih (i + 1) (by omega)
      have l6 := hl i
      refine br_f (tn_i8 (by omega)) ⟨tn_v8 (by omega), ?_⟩
      rw [tn_cl (tn_I ln) (by omega)]
      by_cases z : ln i = 0
      · refine br_t (by show nI (ln i) ≤ 0; rw [z]; decide) (nm_r (nI_1 i) ?_)
        simp only [tn_sm, tn_q_f (show ¬ (ln i ≠ 0) from fun y => y z), Nat.add_zero] at q
        exact q
      · refine br_f (nI_nle (by omega) (by omega)) (nm_r (nI_1 _) (nm_r (nI_1 i) ?_))
        simp only [tn_sm, tn_q_t (show ln i ≠ 0 from z)] at q
        exact q
  exact ⟨9, key 8 0 (by omega)⟩
end
