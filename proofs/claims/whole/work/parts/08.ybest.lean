/-! Y's best path -/
def tn_BF (b n b' n' : Nat) : Prop := b' < b ∨ (b' = b ∧ n' < n)
def tn_SC (E : Nat → Prop) (co : Nat → Nat) (e b n : Nat) (bl bc : Int32) (be : Nat → Int32) : Prop :=
  (bl = 0 ∧ ∀ b' n', b' < 5 → n' < 6 ^ b' → tn_BF b n b' n' → ¬ tn_VA E e b' n') ∨
  ∃ b1 n1, b1 < 5 ∧ n1 < 6 ^ b1 ∧ tn_VA E e b1 n1 ∧ tn_BF b n b1 n1 ∧ bl = nI (b1 + 2) ∧ bc = nI (tn_CO co (tn_pt e b1 n1) (b1 + 1)) ∧ (∀ i, i < b1 + 2 → be i = nI (tn_pt e b1 n1 i)) ∧
    ∀ b' n', b' < 5 → n' < 6 ^ b' → tn_BF b n b' n' → tn_VA E e b' n' → tn_CO co (tn_pt e b1 n1) (b1 + 1) < tn_CO co (tn_pt e b' n') (b' + 1) ∨ (tn_CO co (tn_pt e b1 n1) (b1 + 1) = tn_CO co (tn_pt e b' n') (b' + 1) ∧ (b1 < b' ∨ (b1 = b' ∧ n1 ≤ n')))
theorem tn_BF_s {b n b' n' : Nat} (h : tn_BF b (n + 1) b' n') : tn_BF b n b' n' ∨ (b' = b ∧ n' = n) := by
  unfold tn_BF at *
  omega
theorem tn_SC_0 {E : Nat → Prop} {co : Nat → Nat} {e : Nat} {bc : Int32} {be : Nat → Int32} : tn_SC E co e 0 0 0 bc be :=
  Or.inl ⟨rfl, fun b' n' _ _ h => by unfold tn_BF at h; omega⟩
theorem tn_SC_b {E : Nat → Prop} {co : Nat → Nat} {e b : Nat} {bl bc : Int32} {be : Nat → Int32} (h : tn_SC E co e b (6 ^ b) bl bc be) : tn_SC E co e (b + 1) 0 bl bc be := by
  have q : ∀ b' n', n' < 6 ^ b' → tn_BF (b + 1) 0 b' n' → tn_BF b (6 ^ b) b' n' := by
    intro b' n' h1 h2
    rcases h2 with h2 | h2
    · by_cases z : b' = b
      · subst z; exact Or.inr ⟨rfl, h1⟩
      · exact Or.inl (by omega)
    · omega
  rcases h with ⟨h1, h2⟩ | ⟨b1, n1, h1, h2, h3, h4, h5, h6, h7, h8⟩
  · exact Or.inl ⟨h1, fun b' n' a1 a2 a3 => h2 b' n' a1 a2 (q b' n' a2 a3)⟩
  · refine Or.inr ⟨b1, n1, h1, h2, h3, ?_, h5, h6, h7, fun b' n' a1 a2 a3 => h8 b' n' a1 a2 (q b' n' a2 a3)⟩
    unfold tn_BF at *
    omega
theorem tn_SC_skip {E : Nat → Prop} {co : Nat → Nat} {e b n : Nat} {bl bc : Int32} {be : Nat → Int32} (h : tn_SC E co e b n bl bc be) (hv : ¬ tn_VA E e b n) : tn_SC E co e b (n + 1) bl bc be := by
  rcases h with ⟨h1, h2⟩ | ⟨b1, n1, h1, h2, h3, h4, h5, h6, h7, h8⟩
  · refine Or.inl ⟨h1, fun b' n' a1 a2 a3 => ?_⟩
    rcases tn_BF_s a3 with z | ⟨rfl, rfl⟩
    · exact h2 b' n' a1 a2 z
    · exact hv
  · refine Or.inr ⟨b1, n1, h1, h2, h3, ?_, h5, h6, h7, fun b' n' a1 a2 a3 a4 => ?_⟩
    · unfold tn_BF at *
      omega
    · rcases tn_BF_s a3 with z | ⟨rfl, rfl⟩
      · exact h8 b' n' a1 a2 z a4
      · exact absurd a4 hv
theorem tn_SC_keep {E : Nat → Prop} {co : Nat → Nat} {e b n b1 n1 : Nat} {bl bc : Int32} {be : Nat → Int32} (h1 : b1 < 5) (h2 : n1 < 6 ^ b1) (h3 : tn_VA E e b1 n1) (h4 : tn_BF b n b1 n1) (h5 : bl = nI (b1 + 2)) (h6 : bc = nI (tn_CO co (tn_pt e b1 n1) (b1 + 1))) (h7 : ∀ i, i < b1 + 2 → be i = nI (tn_pt e b1 n1 i))
    (h8 : ∀ b' n', b' < 5 → n' < 6 ^ b' → tn_BF b n b' n' → tn_VA E e b' n' → tn_CO co (tn_pt e b1 n1) (b1 + 1) < tn_CO co (tn_pt e b' n') (b' + 1) ∨ (tn_CO co (tn_pt e b1 n1) (b1 + 1) = tn_CO co (tn_pt e b' n') (b' + 1) ∧ (b1 < b' ∨ (b1 = b' ∧ n1 ≤ n'))))
    (hc : tn_CO co (tn_pt e b1 n1) (b1 + 1) ≤ tn_CO co (tn_pt e b n) (b + 1)) : tn_SC E co e b (n + 1) bl bc be := by
  refine Or.inr ⟨b1, n1, h1, h2, h3, ?_, h5, h6, h7, fun b' n' a1 a2 a3 a4 => ?_⟩
  · unfold tn_BF at *
    omega
  · rcases tn_BF_s a3 with z | ⟨rfl, rfl⟩
    · exact h8 b' n' a1 a2 z a4
    · unfold tn_BF at h4
      omega
theorem tn_SC_take {E : Nat → Prop} {co : Nat → Nat} {e b n : Nat} {bl bc bl' bc' : Int32} {be be' : Nat → Int32} (h : tn_SC E co e b n bl bc be) (hb : b < 5) (hn : n < 6 ^ b) (hv : tn_VA E e b n)
    (hc : bl = 0 ∨ ∀ b1 n1, b1 < 5 → n1 < 6 ^ b1 → tn_VA E e b1 n1 → bc = nI (tn_CO co (tn_pt e b1 n1) (b1 + 1)) → tn_CO co (tn_pt e b n) (b + 1) < tn_CO co (tn_pt e b1 n1) (b1 + 1))
    (h5 : bl' = nI (b + 2)) (h6 : bc' = nI (tn_CO co (tn_pt e b n) (b + 1))) (h7 : ∀ i, i < b + 2 → be' i = nI (tn_pt e b n i)) : tn_SC E co e b (n + 1) bl' bc' be' := by
  refine Or.inr ⟨b, n, hb, hn, hv, ?_, h5, h6, h7, fun b' n' a1 a2 a3 a4 => ?_⟩
  · unfold tn_BF
    omega
  · rcases tn_BF_s a3 with z | ⟨rfl, rfl⟩
    · rcases h with ⟨h1, h2⟩ | ⟨b1, n1, g1, g2, g3, g4, g5, g6, g7, g8⟩
      · exact absurd a4 (h2 b' n' a1 a2 z)
      · have q := g8 b' n' a1 a2 z a4
        rcases hc with hc | hc
        · rw [g5] at hc
          exact absurd hc (nI_ne0 (by omega) (by omega))
        · have := hc b1 n1 g1 g2 g3 g6
          exact Or.inl (by omega)
    · exact Or.inr ⟨rfl, Or.inr ⟨rfl, Nat.le_refl _⟩⟩
theorem tn_SC_fin {E : Nat → Prop} {co : Nat → Nat} {e : Nat} {bl bc : Int32} {be : Nat → Int32} (h : tn_SC E co e 5 0 bl bc be) :
    (bl = 0 ∧ ∀ b n, b < 5 → n < 6 ^ b → ¬ tn_VA E e b n) ∨ ∃ b n, tn_BE E co e b n ∧ bl = nI (b + 2) ∧ bc = nI (tn_CO co (tn_pt e b n) (b + 1)) ∧ ∀ i, i < b + 2 → be i = nI (tn_pt e b n i) := by
  rcases h with ⟨h1, h2⟩ | ⟨b1, n1, g1, g2, g3, g4, g5, g6, g7, g8⟩
  · exact Or.inl ⟨h1, fun b n a1 a2 => h2 b n a1 a2 (Or.inl a1)⟩
  · exact Or.inr ⟨b1, n1, ⟨g1, g2, g3, fun b' n' a1 a2 a4 => g8 b' n' a1 a2 (Or.inl a1) a4⟩, g5, g6, g7⟩
abbrev tn_JY : Type := Int32 → Int32 → Int32 → Int32 → (Nat → Int32) → (Nat → Int32) → (Nat → Int32) → (Nat → Int32) → (Nat → Int32) → (Nat → Int32) → (Nat → Int32) → (Nat → Int32) → (Nat → Int32) → (Nat → Int32) → (Nat → Int32) → (Nat → Int32) → (Nat → Int32) → (Nat → Int32) → Prop
section
variable {fl le bl bc : Int32} {th up cl av st wa op rk fn pa be : Nat → Int32} {co ca en bw pr ln nd : Nat → Nat} {tl : Nat → Int64}
theorem tn_y_nums {post : Int32 → Prop} {b : Nat} (hb : b < 5) (h : post (nI (6 ^ b))) : wpY_numbers post (le, bl, bc, th, tn_I co, tn_I ca, cl, up, wa, tn_I en, tn_I bw, tn_I pr, av, tn_I ln, tn_I nd, pa, be) (nI b) := by
  have hb' : b = 0 ∨ b = 1 ∨ b = 2 ∨ b = 3 ∨ b = 4 := by omega
  rcases hb' with rfl | rfl | rfl | rfl | rfl
  · exact br_t rfl h
  · exact br_f (by decide) (br_t rfl h)
  · exact br_f (by decide) (br_f (by decide) (br_t rfl h))
  · exact br_f (by decide) (br_f (by decide) (br_f (by decide) (br_t rfl h)))
  · exact br_f (by decide) (br_f (by decide) (br_f (by decide) (br_f (by decide) h)))
theorem tn_y_take {post : Int32 → SY → Prop} {J8 J17 : tn_JY} {x1 x2 x3 x4 x5 x6 x7 : Int32} {m : Nat} {f : Nat → Nat} (hm5 : m ≤ 5) (hf : ∀ i, i < m + 1 → f i < 6) (ef : ∀ i, i < m + 1 → pa i = nI (f i))
    (h : ∀ be', (∀ i, i < m + 1 → be' i = nI (f i)) → J17 (x7 + 1) (nI (m + 1)) (nI (m + 1)) (nI (tn_CO co f m)) th (tn_I co) (tn_I ca) cl up wa (tn_I en) (tn_I bw) (tn_I pr) av (tn_I ln) (tn_I nd) pa be') : wY_findBest_71 post J8 J17 x1 x2 x3 x4 x5 x6 x7 (nI (m + 1)) bl bc th (tn_I co) (tn_I ca) cl up wa (tn_I en) (tn_I bw) (tn_I pr) av (tn_I ln) (tn_I nd) pa be := by
  refine tn_y_pcost hm5 hf ef ⟨m + 2, ?_⟩
  have key : ∀ d i (be : Nat → Int32), i + d = m + 1 → (∀ j, j < i → be j = nI (f j)) → wY_findBest_90 post J8 J17 x1 x2 x3 x4 x5 x6 x7 (nI (m + 1)) (nI (m + 1)) (nI (tn_CO co f m)) (d + 1) (nI i) th (tn_I co) (tn_I ca) cl up wa (tn_I en) (tn_I bw) (tn_I pr) av (tn_I ln) (tn_I nd) pa be := by
    intro d
    induction d with
    | zero =>
      intro i be hi e
      have : i = m + 1 := by omega
      subst this
      exact br_t (Int32.le_refl _) (nm_e (h be e))
    | succ d ih =>
      intro i be hi e
      refine br_f (nI_ge (by omega) (by omega)) ⟨tn_v6 (by omega), tn_v6 (by omega), ?_⟩
      rw [nI_clamp (show i < 2 ^ 31 by omega)]
      refine nm_e (nm_r (nI_1 i) (ih (i + 1) _ (by omega) fun j hj => ?_))
      by_cases z : j = i
      · subst z; rw [pk_us]; exact ef j (by omega)
      · rw [pk_un z]; exact e j (by omega)
  exact key (m + 1) 0 be (by omega) (fun j hj => absurd hj (Nat.not_lt_zero j))
theorem tn_VA_DI {E : Nat → Prop} {e b n : Nat} : tn_VA E e b n ↔ tn_DI e b n ∧ ∀ i, i < b + 1 → E (tn_cd (tn_pt e b n i) (tn_pt e b n (i + 1))) := Iff.rfl
theorem tn_WS_lt {A : Nat → Prop} {r : Int32} {x : Nat} (h : tn_WS A r) (hx : 1 ≤ x) (hx2 : x ≤ 100) : r < nI x ↔ ¬ A x := by
  rcases h with ⟨h1, h2⟩ | ⟨y, y1, y2, er, I⟩
  · refine ⟨fun _ => h2 x hx, fun _ => ?_⟩
    rw [tn_lt1] at h1
    rw [Int32.lt_iff_toInt_lt, nI_toInt (by omega)]
    omega
  · rw [er, nI_ltI (by omega) (by omega), I x hx]
    omega
theorem tn_y_best {post : Int32 → SY → Prop} {e b0 p : Nat} {a q : Int32} (he : e < 36) (hb1 : 1 ≤ b0) (hb2 : b0 ≤ 100) (hp : p < 2 ^ 20) (hpr : ∀ t, pr t ≤ 3) (hl : ∀ t, ln t ≤ 6) (hn : ∀ i, nd i < 6) (hca : ∀ c, ca c ≤ 100) (hbw : ∀ t, bw t ≤ 100) (hco : ∀ c, co c ≤ 20)
    (h : ∀ (le' bl' bc' : Int32) (pa' be' : Nat → Int32),
      (bl' = 0 → (∀ b n, b < 5 → n < 6 ^ b → ¬ tn_VA (tn_EU th up cl a ca bw pr ln nd q p b0) e b n) → post 0 (le', bl', bc', th, tn_I co, tn_I ca, cl, up, wa, tn_I en, tn_I bw, tn_I pr, av, tn_I ln, tn_I nd, pa', be')) ∧
      (∀ b n, tn_BE (tn_EU th up cl a ca bw pr ln nd q p b0) co e b n → bl' = nI (b + 2) → bc' = nI (tn_CO co (tn_pt e b n) (b + 1)) → (∀ i, i < b + 2 → be' i = nI (tn_pt e b n i)) → post 1 (le', bl', bc', th, tn_I co, tn_I ca, cl, up, wa, tn_I en, tn_I bw, tn_I pr, av, tn_I ln, tn_I nd, pa', be'))) :
    wpY_findBest post (le, bl, bc, th, tn_I co, tn_I ca, cl, up, wa, tn_I en, tn_I bw, tn_I pr, av, tn_I ln, tn_I nd, pa, be) (nI e) (nI b0) (nI p) a q := by
  have co100 : ∀ b n, b < 5 → tn_CO co (tn_pt e b n) (b + 1) ≤ 100 := by
    intro b n hb
    have := tn_sm_bd (f := fun i => co (tn_cd (tn_pt e b n i) (tn_pt e b n (i + 1)))) (b := 20) (n := b + 1) (fun i _ => hco _)
    unfold tn_CO
    omega
  have inner : ∀ (J8 : tn_JY) (b : Nat), b < 5 →
      (∀ (le bl bc : Int32) (pa be : Nat → Int32), tn_SC (tn_EU th up cl a ca bw pr ln nd q p b0) co e b (6 ^ b) bl bc be → J8 (nI (b + 1)) le bl bc th (tn_I co) (tn_I ca) cl up wa (tn_I en) (tn_I bw) (tn_I pr) av (tn_I ln) (tn_I nd) pa be) →
      ∀ d n (le bl bc : Int32) (pa be : Nat → Int32), n + d = 6 ^ b → tn_SC (tn_EU th up cl a ca bw pr ln nd q p b0) co e b n bl bc be → wY_findBest_17 post J8 (nI e) (nI b0) (nI p) a q (nI b) (d + 1) (nI n) le bl bc th (tn_I co) (tn_I ca) cl up wa (tn_I en) (tn_I bw) (tn_I pr) av (tn_I ln) (tn_I nd) pa be := by
    intro J8 b hb hJ d
    have h6 := tn_p6 hb
    induction d with
    | zero =>
      intro n le bl bc pa be hnd S
      have : n = 6 ^ b := by omega
      subst this
      rw [wY_findBest_17]
      refine tn_y_nums hb ?_
      exact br_t (Int32.le_refl _) (nm_r (nI_1 b) (hJ le bl bc pa be S))
    | succ d ih =>
      intro n le bl bc pa be hnd S
      have hn6 : n < 6 ^ b := by omega
      rw [wY_findBest_17]
      refine tn_y_nums hb ?_
      refine br_f (nI_ge hn6 (by omega)) ?_
      refine tn_y_mk he hb hn6 fun pa' ep => ⟨fun D => br_f (by decide) ?_, fun D => br_t rfl (nm_r (nI_1 n) (ih (n + 1) _ bl bc pa' be (by omega) (tn_SC_skip S fun v => D v.1)))⟩
      have hf6 : ∀ i, i < b + 1 + 1 → tn_pt e b n i < 6 := fun i _ => tn_pt_lt he
      refine tn_y_width (m := b + 1) (f := tn_pt e b n) (by omega) (by omega) hp hpr hl hn hca hbw hf6 ep fun r W => ?_
      have W2 := tn_WS_lt W hb1 hb2
      refine br_c (fun z => nm_r (nI_1 n) (ih (n + 1) _ bl bc pa' be (by omega) (tn_SC_skip S fun v => W2.1 z v.2))) (fun z => ?_)
      have V : tn_VA (tn_EU th up cl a ca bw pr ln nd q p b0) e b n := ⟨D, Classical.byContradiction fun y => z (W2.2 y)⟩
      have take : (bl = 0 ∨ ∀ b1 n1, b1 < 5 → n1 < 6 ^ b1 → tn_VA (tn_EU th up cl a ca bw pr ln nd q p b0) e b1 n1 → bc = nI (tn_CO co (tn_pt e b1 n1) (b1 + 1)) → tn_CO co (tn_pt e b n) (b + 1) < tn_CO co (tn_pt e b1 n1) (b1 + 1)) →
          wY_findBest_71 post J8 (wY_findBest_17 post J8 (nI e) (nI b0) (nI p) a q (nI b) (d + 1)) (nI e) (nI b0) (nI p) a q (nI b) (nI n) (nI (b + 2)) bl bc th (tn_I co) (tn_I ca) cl up wa (tn_I en) (tn_I bw) (tn_I pr) av (tn_I ln) (tn_I nd) pa' be := by
        intro hc
        refine tn_y_take (m := b + 1) (f := tn_pt e b n) (by omega) hf6 ep fun be' eb => ?_
        rw [nI_1]
        exact ih (n + 1) _ _ _ pa' be' (by omega) (tn_SC_take S hb hn6 V hc rfl rfl eb)
      refine br_c (fun z0 => take (Or.inl z0)) (fun z0 => ?_)
      refine tn_y_pcost (m := b + 1) (f := tn_pt e b n) (by omega) hf6 ep ?_
      have c1 := co100 b n hb
      rcases S with ⟨h1, h2⟩ | ⟨b1, n1, g1, g2, g3, g4, g5, g6, g7, g8⟩
      · exact absurd h1 z0
      · have c2 := co100 b1 n1 g1
        refine pk_le _ _ (fun l => nm_r (nI_1 n) (ih (n + 1) _ bl bc pa' be (by omega) (tn_SC_keep g1 g2 g3 g4 g5 g6 g7 g8 l))) (fun l => take (Or.inr fun b2 n2 k1 k2 k3 k4 => ?_)) g6 rfl (by omega) (by omega)
        have c3 := co100 b2 n2 k1
        rw [g6, nI_eq (by omega) (by omega)] at k4
        omega
  have outer : ∀ d b (le bl bc : Int32) (pa be : Nat → Int32), b + d = 5 → tn_SC (tn_EU th up cl a ca bw pr ln nd q p b0) co e b 0 bl bc be → wY_findBest_8 post (nI e) (nI b0) (nI p) a q (d + 1) (nI b) le bl bc th (tn_I co) (tn_I ca) cl up wa (tn_I en) (tn_I bw) (tn_I pr) av (tn_I ln) (tn_I nd) pa be := by
    intro d
    induction d with
    | zero =>
      intro b le bl bc pa be hb S
      have : b = 5 := by omega
      subst this
      obtain ⟨p0, p1⟩ := h le bl bc pa be
      refine br_t (by decide) ?_
      rcases tn_SC_fin S with ⟨h1, h2⟩ | ⟨b, n, h1, h2, h3, h4⟩
      · exact br_t (by rw [h1]; decide) (p0 h1 h2)
      · refine br_f ?_ (p1 b n h1 h2 h3 h4)
        have := h1.1
        rw [h2]
        exact nI_nle (by omega) (by omega)
    | succ d ih =>
      intro b le bl bc pa be hb S
      refine br_f (nI_ge (b := 5) (by omega) (by decide)) ⟨6 ^ b + 1, ?_⟩
      exact inner _ b (by omega) (fun le bl bc pa be S => ih (b + 1) le bl bc pa be (by omega) (tn_SC_b S)) (6 ^ b) 0 le bl bc pa be (by omega) S
  exact ⟨6, outer 5 0 le 0 bc pa be (by omega) tn_SC_0⟩
theorem tn_y_place {post : SY → Prop} {t L : Nat} {f : Nat → Nat} (ht : t < 8) (hL : L ≤ 6) (ef : ∀ i, i < L → be i = nI (f i))
    (h : post (le, nI L, bc, th, tn_I co, tn_I ca, cl, up, wa, tn_I en, tn_I bw, tn_I pr, av, tn_I (tn_up ln t L), tn_I (tn_pl nd t L f), pa, be)) : wpY_place post (le, nI L, bc, th, tn_I co, tn_I ca, cl, up, wa, tn_I en, tn_I bw, tn_I pr, av, tn_I ln, tn_I nd, pa, be) (nI t) := by
  have v := tn_v8 ht
  have key : ∀ d i, i + d = L → wY_place_12 post (nI t) le (nI L) bc (d + 1) (nI i) th (tn_I co) (tn_I ca) cl up wa (tn_I en) (tn_I bw) (tn_I pr) av (tn_I (tn_up ln t L)) (tn_I (tn_pl nd t i f)) pa be := by
    intro d
    induction d with
    | zero =>
      intro i hi
      have : i = L := by omega
      subst this
      exact br_t (Int32.le_refl _) h
    | succ d ih =>
      intro i hi
      refine br_f (nI_ge (by omega) (by omega)) ⟨tn_v6 (by omega), ?_⟩
      rw [tn_6ab, nI_clamp (show 6 * t + i < 2 ^ 31 by omega), nI_clamp (show i < 2 ^ 31 by omega), ef i (by omega)]
      exact ⟨tn_v48 (by omega), nm_r (tn_pl_s nd f t i) (nm_r (nI_1 i) (ih (i + 1) (by omega)))⟩
  refine ⟨v, nm_r ((congrArg (fun z => upd (tn_I ln) z (nI L)) (nI_clamp (by omega))).trans (tn_up_I ln t L)) ⟨L + 1, ?_⟩⟩
  have k := key L 0 (by omega)
  rw [tn_pl_0] at k
  exact k
end
