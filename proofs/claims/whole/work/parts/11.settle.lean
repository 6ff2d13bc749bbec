/-! a settling ends, and both sides end it alike -/
noncomputable def tn_ph (pr ln : Nat → Nat) (q : Nat) : Nat := tn_sm (fun t => tn_q (ln t ≠ 0 ∧ pr t < q) (9 ^ (3 - pr t))) 8
noncomputable def tn_lq (bw pr ln nd : Nat → Nat) (q c : Nat) : Nat := tn_sm (fun t => tn_q (tn_ov ln nd t c ∧ pr t < q) (bw t)) 8
def tn_LQ (th : Nat → Int32) (ca bw pr ln nd : Nat → Nat) (q : Nat) : Prop := ∀ c, c < 36 → th c ≠ 0 → tn_lq bw pr ln nd q c ≤ ca c
def tn_OK (th up cl av : Nat → Int32) (ln nd : Nat → Nat) : Prop := ∀ t c, t < 8 → c < 36 → tn_ov ln nd t c → tn_OP th up cl (av t) c
theorem tn_sm_const (f : Nat → Nat) (b : Nat) : ∀ n, tn_sm (fun t => f t + b) n = tn_sm f n + n * b
  | 0 => by simp [tn_sm]
  | n + 1 => by
    have := tn_sm_const f b n
    simp only [tn_sm, Nat.add_mul]
    omega
section
variable {fl le bl bc : Int32} {th up cl av st wa op rk fn pa be : Nat → Int32} {co ca en bw pr ln nd : Nat → Nat} {tl : Nat → Int64}
theorem tn_ph_le (q : Nat) : tn_ph pr ln q ≤ 5832 := tn_sm_bd (n := 8) (b := 729) fun t _ => Nat.le_trans tn_q_le (Nat.le_trans (Nat.pow_le_pow_right (by decide) (show 3 - pr t ≤ 3 by omega)) (by decide))
theorem tn_ph_mono {q : Nat} (hpr : ∀ t, pr t ≤ 3) : tn_ph pr ln q ≤ tn_ph pr ln 4 := tn_sm_le fun t _ => tn_q_mono fun h => ⟨h.1, by have := hpr t; omega⟩
theorem tn_ph_drop {q o : Nat} (ho : q ≤ pr o) : tn_ph pr (tn_up ln o 0) q = tn_ph pr ln q := by
  refine tn_sm_eq fun t ht => ?_
  by_cases z : t = o
  · subst z
    rw [tn_q_f (fun y => by have := y.2; omega), tn_q_f (fun y => by have := y.2; omega)]
  · rw [tn_up_n z]
theorem tn_ph_put {t L : Nat} (ht : t < 8) (h0 : ln t = 0) (hL : L ≠ 0) : tn_ph pr ln (pr t + 1) + 9 ^ (3 - pr t) = tn_ph pr (tn_up ln t L) (pr t + 1) := by
  refine tn_sm_adde (a := t) (fun s hs hst => ?_) ht ?_
  · rw [tn_up_n hst]
  · rw [tn_up_s, tn_q_f (fun y => y.1 h0), tn_q_t ⟨hL, by omega⟩]
    omega
theorem tn_ph_gap {p : Nat} (hp : p ≤ 3) (hpr : ∀ t, pr t ≤ 3) : tn_ph pr ln 4 < tn_ph pr ln (p + 1) + 9 ^ (3 - p) := by
  have go : ∀ B, (∀ t, p < pr t → 9 ^ (3 - pr t) ≤ B) → tn_ph pr ln 4 ≤ tn_ph pr ln (p + 1) + 8 * B := by
    intro B hB
    have a : tn_ph pr ln 4 ≤ tn_sm (fun t => tn_q (ln t ≠ 0 ∧ pr t < p + 1) (9 ^ (3 - pr t)) + B) 8 := by
      refine tn_sm_le fun t ht => ?_
      rcases Nat.lt_or_ge p (pr t) with z | z
      · have := hB t z
        have : tn_q (ln t ≠ 0 ∧ pr t < 4) (9 ^ (3 - pr t)) ≤ 9 ^ (3 - pr t) := tn_q_le
        omega
      · have : tn_q (ln t ≠ 0 ∧ pr t < 4) (9 ^ (3 - pr t)) ≤ tn_q (ln t ≠ 0 ∧ pr t < p + 1) (9 ^ (3 - pr t)) := tn_q_mono fun h => ⟨h.1, by omega⟩
        omega
    rw [tn_sm_const] at a
    exact a
  have pw : ∀ t B, p < pr t → 9 ^ (3 - (p + 1)) ≤ B → 9 ^ (3 - pr t) ≤ B := fun t B h1 h2 => Nat.le_trans (Nat.pow_le_pow_right (by decide) (by omega)) h2
  have hp' : p = 0 ∨ p = 1 ∨ p = 2 ∨ p = 3 := by omega
  rcases hp' with rfl | rfl | rfl | rfl
  · have := go 81 fun t h => pw t 81 h (by decide)
    simp only [Nat.sub_zero]
    omega
  · have := go 9 fun t h => pw t 9 h (by decide)
    simp only [show 3 - 1 = 2 from rfl]
    omega
  · have := go 1 fun t h => pw t 1 h (by decide)
    simp only [show 3 - 2 = 1 from rfl]
    omega
  · have := go 0 fun t h => by have := hpr t; omega
    simp only [Nat.sub_self]
    omega
theorem tn_np_drop {o : Nat} (ho : o < 8) (h : ln o ≠ 0) : tn_np (tn_up ln o 0) + 1 = tn_np ln := by
  refine tn_sm_adde (a := o) (fun s hs hst => ?_) ho ?_
  · rw [tn_up_n hst]
  · rw [tn_up_s, tn_q_f (fun y => y rfl), tn_q_t h]
theorem tn_ov_sub {s o c : Nat} (h : tn_ov (tn_up ln o 0) nd s c) : tn_ov ln nd s c := by
  by_cases z : s = o
  · subst z; exact absurd h tn_ov_0
  · exact (tn_ov_n z).1 h
theorem tn_LQ_drop {q o : Nat} (h : tn_LQ th ca bw pr ln nd q) : tn_LQ th ca bw pr (tn_up ln o 0) nd q := fun c hc ht =>
  Nat.le_trans (tn_sm_le fun s _ => tn_q_mono fun y => ⟨tn_ov_sub y.1, y.2⟩) (h c hc ht)
theorem tn_OK_drop {o : Nat} (h : tn_OK th up cl av ln nd) : tn_OK th up cl av (tn_up ln o 0) nd := fun t c ht hc y => h t c ht hc (tn_ov_sub y)
theorem tn_vic {q c o : Nat} (hc : c < 36) (hO : tn_OL th ca bw ln nd c) (hL : tn_LQ th ca bw pr ln nd q) (hV : tn_VI pr ln nd c o) : q ≤ pr o := by
  rcases Nat.lt_or_ge (pr o) q with z | z
  · have a := hL c hc hO.1
    have e : tn_lq bw pr ln nd q c = tn_ld bw ln nd c := tn_sm_eq fun s hs => tn_q_iff ⟨fun y => y.1, fun y => ⟨y, by have := hV.2.2 s hs y; omega⟩⟩
    have := hO.2
    omega
  · exact z
theorem tn_vi_ex {c : Nat} (hO : tn_OL th ca bw ln nd c) : ∃ o, tn_VI pr ln nd c o := by
  have hp : 0 < tn_ld bw ln nd c := by have := hO.2; omega
  obtain ⟨t, ht, z⟩ := tn_sm_pos hp
  have hv : tn_ov ln nd t c := Classical.byContradiction fun y => by rw [tn_q_f y] at z; omega
  have key : ∀ i, i ≤ 8 → (∀ s, s < i → ¬ tn_ov ln nd s c) ∨ ∃ o, o < i ∧ tn_ov ln nd o c ∧ ∀ s, s < i → tn_ov ln nd s c → pr s < pr o ∨ (pr s = pr o ∧ s ≤ o) := by
    intro i
    induction i with
    | zero => exact fun _ => Or.inl fun s hs => absurd hs (Nat.not_lt_zero s)
    | succ i ih =>
      intro hi
      rcases Classical.em (tn_ov ln nd i c) with y | y
      · rcases ih (by omega) with I | ⟨o, ho, a, b⟩
        · refine Or.inr ⟨i, by omega, y, fun s hs hs2 => ?_⟩
          by_cases e : s = i
          · subst e; exact Or.inr ⟨rfl, Nat.le_refl _⟩
          · exact absurd hs2 (I s (by omega))
        · rcases Nat.lt_or_ge (pr i) (pr o) with l | l
          · refine Or.inr ⟨o, by omega, a, fun s hs hs2 => ?_⟩
            by_cases e : s = i
            · subst e; exact Or.inl l
            · exact b s (by omega) hs2
          · refine Or.inr ⟨i, by omega, y, fun s hs hs2 => ?_⟩
            by_cases e : s = i
            · subst e; exact Or.inr ⟨rfl, Nat.le_refl _⟩
            · have := b s (by omega) hs2
              omega
      · rcases ih (by omega) with I | ⟨o, ho, a, b⟩
        · refine Or.inl fun s hs => ?_
          by_cases e : s = i
          · subst e; exact y
          · exact I s (by omega)
        · refine Or.inr ⟨o, by omega, a, fun s hs hs2 => ?_⟩
          by_cases e : s = i
          · subst e; exact absurd hs2 y
          · exact b s (by omega) hs2
  rcases key 8 (Nat.le_refl _) with I | ⟨o, ho, a, b⟩
  · exact absurd hv (I t ht)
  · exact ⟨o, ho, a, b⟩
theorem tn_least36 (P : Nat → Prop) (h : ¬ ∀ c, c < 36 → ¬ P c) : ∃ c, c < 36 ∧ P c ∧ ∀ d, d < c → ¬ P d := by
  have key : ∀ i, i ≤ 36 → (∀ d, d < i → ¬ P d) ∨ ∃ c, c < 36 ∧ P c ∧ ∀ d, d < c → ¬ P d := by
    intro i
    induction i with
    | zero => exact fun _ => Or.inl fun d hd => absurd hd (Nat.not_lt_zero d)
    | succ i ih =>
      intro hi
      rcases ih (by omega) with I | I
      · rcases Classical.em (P i) with y | y
        · exact Or.inr ⟨i, by omega, y, I⟩
        · refine Or.inl fun d hd => ?_
          by_cases e : d = i
          · subst e; exact y
          · exact I d (by omega)
      · exact Or.inr I
  rcases key 36 (Nat.le_refl _) with I | I
  · exact absurd I h
  · exact I
theorem tn_relieve {q : Nat} (hF : tn_FX th wa co ca en bw pr) : ∀ N ln, tn_np ln ≤ N → tn_MV wa en ln nd → tn_OK th up cl av ln nd → tn_LQ th ca bw pr ln nd q →
    ∃ ln1 k, tn_MV wa en ln1 nd ∧ tn_OK th up cl av ln1 nd ∧ tn_LQ th ca bw pr ln1 nd q ∧ tn_ph pr ln1 q = tn_ph pr ln q ∧ (∀ c, c < 36 → ¬ tn_OL th ca bw ln1 nd c) ∧
      (∀ j, j + N ≤ 8 → ∃ n, ∀ (post : SX → Prop) (fl : Int32) (st : Nat → Int32) (tl : Nat → Int64) (op rk fn : Nat → Int32), tn_SX st wa ln → tn_TL tl ln nd → (∀ (st' : Nat → Int32) (tl' : Nat → Int64), tn_SX st' wa ln1 → tn_TL tl' ln1 nd → post (fl, th, up, tn_I co, tn_I ca, cl, st', tn_I en, tn_I bw, tn_I pr, av, tl', tn_I nd, tn_I ln1, op, rk, fn)) → wX_relieveLinks_2 post n (nI j) fl th up (tn_I co) (tn_I ca) cl st (tn_I en) (tn_I bw) (tn_I pr) av tl (tn_I nd) (tn_I ln) op rk fn) ∧
      (∀ n (post : Int32 → SY → Prop) (le bl bc : Int32) (pa be : Nat → Int32), wY_settle_6 post n 1 le bl bc th (tn_I co) (tn_I ca) cl up wa (tn_I en) (tn_I bw) (tn_I pr) av (tn_I ln1) (tn_I nd) pa be → wY_settle_6 post (n + k) 1 le bl bc th (tn_I co) (tn_I ca) cl up wa (tn_I en) (tn_I bw) (tn_I pr) av (tn_I ln) (tn_I nd) pa be) := by
  obtain ⟨fTH, fco, fca, fen, fbw, fpr, fwa⟩ := hF
  intro N
  have none : ∀ ln, (∀ c, c < 36 → ¬ tn_OL th ca bw ln nd c) → ∀ j, j ≤ 8 → ∃ n, ∀ (post : SX → Prop) (fl : Int32) (st : Nat → Int32) (tl : Nat → Int64) (op rk fn : Nat → Int32), tn_SX st wa ln → tn_TL tl ln nd → (∀ (st' : Nat → Int32) (tl' : Nat → Int64), tn_SX st' wa ln → tn_TL tl' ln nd → post (fl, th, up, tn_I co, tn_I ca, cl, st', tn_I en, tn_I bw, tn_I pr, av, tl', tn_I nd, tn_I ln, op, rk, fn)) → wX_relieveLinks_2 post n (nI j) fl th up (tn_I co) (tn_I ca) cl st (tn_I en) (tn_I bw) (tn_I pr) av tl (tn_I nd) (tn_I ln) op rk fn := by
    intro ln hno j hj
    refine ⟨1, fun post fl st tl op rk fn S T h => ?_⟩
    rw [wX_relieveLinks_2]
    refine br_c (fun _ => h st tl S T) (fun _ => tn_x_first fca fbw T (fun _ => br_t rfl (h st tl S T)) (fun c hc hO _ => absurd hO (hno c hc)))
  induction N with
  | zero =>
    intro ln hN M O L
    have hno : ∀ c, c < 36 → ¬ tn_OL th ca bw ln nd c := by
      intro c hc hO
      obtain ⟨o, hV⟩ := tn_vi_ex (pr := pr) hO
      have := tn_np_drop hV.1 (tn_ov_ne hV.2.1)
      omega
    exact ⟨ln, 0, M, O, L, rfl, hno, fun j hj => none ln hno j (by omega), fun n post le bl bc pa be h => h⟩
  | succ N ih =>
    intro ln hN M O L
    rcases Classical.em (∀ c, c < 36 → ¬ tn_OL th ca bw ln nd c) with hno | hex
    · exact ⟨ln, 0, M, O, L, rfl, hno, fun j hj => none ln hno j (by omega), fun n post le bl bc pa be h => h⟩
    · obtain ⟨c, hc, hO, hle⟩ := tn_least36 _ hex
      obtain ⟨o, hV⟩ := tn_vi_ex (pr := pr) hO
      have hn1 := tn_np_drop hV.1 (tn_ov_ne hV.2.1)
      have hq := tn_vic hc hO L hV
      obtain ⟨ln1, k, M1, O1, L1, P1, N1, X1, Y1⟩ := ih (tn_up ln o 0) (by omega) (tn_MV_drop M) (tn_OK_drop O) (tn_LQ_drop L)
      have uc : ∀ c', tn_OL th ca bw ln nd c' → (∀ d, d < c' → ¬ tn_OL th ca bw ln nd d) → c' = c := by
        intro c' a b
        rcases Nat.lt_trichotomy c c' with z | z | z
        · exact absurd hO (b c z)
        · exact z.symm
        · exact absurd a (hle c' z)
      refine ⟨ln1, k + 1, M1, O1, L1, P1.trans (tn_ph_drop hq), N1, fun j hj => ?_, fun n post le bl bc pa be h => ?_⟩
      · obtain ⟨n, hn⟩ := X1 (j + 1) (by omega)
        refine ⟨n + 1, fun post fl st tl op rk fn S T h => ?_⟩
        rw [wX_relieveLinks_2]
        refine br_f (tn_i8 (by omega)) (tn_x_first fca fbw T (fun z => absurd hO (z c hc)) (fun c' hc' hO' hle' => br_f (tn_ne_m1 (by omega)) ?_))
        have e := uc c' hO' hle'
        subst e
        refine tn_x_least hc fpr T ⟨o, hV.1, hV.2.1⟩ fun o' hV' => br_f (tn_ne_m1 (by have := hV'.1; omega)) ?_
        have e := tn_VI_uniq hV hV'
        subst e
        exact tn_x_idle hV.1 (nm_r (nI_1 j) (hn post fl _ _ op rk fn (tn_SX_drop S (M.2.2.1 o (tn_ov_ne hV.2.1))) (tn_TL_idle T) h))
      · show wY_settle_6 post (n + k + 1) 1 _ _ _ _ _ _ _ _ _ _ _ _ _ _ _ _ _
        rw [wY_settle_6]
        refine br_f (by decide) (tn_y_full fca fbw fpr M.1 M.2.1 (fun z => absurd hO (z c hc)) (fun c' o' hc' hO' hle' hV' => br_f (by decide) ?_))
        have e := uc c' hO' hle'
        subst e
        have e := tn_VI_uniq hV hV'
        subst e
        exact Y1 n post le bl bc pa be h
theorem tn_LQ_put {k b n : Nat} (hno : ∀ c, c < 36 → ¬ tn_OL th ca bw ln nd c) (hM : tn_MV wa en ln nd) (hk : k < 8) (h0 : ln k = 0) (B : tn_BE (tn_Et th up cl av ca bw pr ln nd k) co (en k) b n) : tn_LQ th ca bw pr (tn_up ln k (b + 2)) (tn_pl nd k (b + 2) (tn_pt (en k) b n)) (pr k + 1) := by
  intro c hc ht
  have b5 := B.1
  rcases Classical.em (tn_ov (tn_up ln k (b + 2)) (tn_pl nd k (b + 2) (tn_pt (en k) b n)) k c) with z | z
  · obtain ⟨i, hi, e⟩ := tn_ov_ps.1 z
    have E := B.2.2.1.2 i (by omega)
    rw [e] at E
    have q : tn_tk bw pr ln nd (nI k) (pr k) c + bw k = tn_lq bw pr (tn_up ln k (b + 2)) (tn_pl nd k (b + 2) (tn_pt (en k) b n)) (pr k + 1) c := by
      refine tn_sm_adde (a := k) (fun s hs hsk => tn_q_iff ?_) hk ?_
      · rw [tn_ov_pn hM.1 (by omega) hsk]
        exact ⟨fun y => ⟨y.2.2, by have := y.2.1; omega⟩, fun y => ⟨fun w => hsk ((nI_eq (by omega) (by omega)).1 w), by have := y.2; omega, y.1⟩⟩
      · rw [tn_q_f (fun y => y.1 rfl), tn_q_t ⟨z, by omega⟩]
        omega
    have := E.2.2
    omega
  · have a : tn_lq bw pr (tn_up ln k (b + 2)) (tn_pl nd k (b + 2) (tn_pt (en k) b n)) (pr k + 1) c ≤ tn_ld bw ln nd c := by
      refine tn_sm_le fun s hs => tn_q_mono fun y => ?_
      by_cases w : s = k
      · subst w; exact absurd y.1 z
      · exact (tn_ov_pn hM.1 (by omega) w).1 y.1
    rcases Nat.lt_or_ge (ca c) (tn_ld bw ln nd c) with l | l
    · exact absurd ⟨ht, l⟩ (hno c hc)
    · omega
theorem tn_MV_put {k b n : Nat} (hM : tn_MV wa en ln nd) (he : ∀ t, en t < 36) (hw : wa k ≠ 0) (hb : b < 5) (hn : n < 6 ^ b) (hD : tn_DI (en k) b n) : tn_MV wa en (tn_up ln k (b + 2)) (tn_pl nd k (b + 2) (tn_pt (en k) b n)) := by
  obtain ⟨h1, h2, h3, h4⟩ := hM
  refine ⟨tn_up_le h1 (by omega), tn_pl_lt h2 (fun i _ => tn_pt_lt (he k)), fun s hs => ?_, fun s hs hl => ?_⟩
  · by_cases z : s = k
    · subst z; exact hw
    · rw [tn_up_n z] at hs; exact h3 s hs
  · by_cases z : s = k
    · subst z
      exact ⟨b, n, hb, hn, hD, tn_up_s _ _ _, fun i hi => tn_pl_in hi⟩
    · rw [tn_up_n z] at hl ⊢
      obtain ⟨b', n', g1, g2, g3, g4, g5⟩ := h4 s hs hl
      exact ⟨b', n', g1, g2, g3, g4, fun i hi => by rw [tn_pl_out (by omega) z (by omega)]; exact g5 i hi⟩
theorem tn_OK_put {k b n : Nat} (hO : tn_OK th up cl av ln nd) (hM : tn_MV wa en ln nd) (hb : b < 5) (hE : ∀ i, i < b + 1 → tn_OP th up cl (av k) (tn_cd (tn_pt (en k) b n i) (tn_pt (en k) b n (i + 1)))) : tn_OK th up cl av (tn_up ln k (b + 2)) (tn_pl nd k (b + 2) (tn_pt (en k) b n)) := by
  intro s c hs hc y
  by_cases z : s = k
  · subst z
    obtain ⟨i, hi, e⟩ := tn_ov_ps.1 y
    rw [← e]
    exact hE i (by omega)
  · exact hO s c hs hc ((tn_ov_pn hM.1 (by omega) z).1 y)
theorem tn_BE_ex {E : Nat → Prop} {co : Nat → Nat} {e b n : Nat} (hb : b < 5) (hn : n < 6 ^ b) (hV : tn_VA E e b n) : ∃ b n, tn_BE E co e b n := by
  obtain ⟨x, ⟨b1, n1, h1, h2, h3, h4⟩, hl⟩ := pk_least (fun x => ∃ b n, b < 5 ∧ n < 6 ^ b ∧ tn_VA E e b n ∧ x = tn_CO co (tn_pt e b n) (b + 1) * 6480 + b * 1296 + n) ⟨_, b, n, hb, hn, hV, rfl⟩
  refine ⟨b1, n1, h1, h2, h3, fun b' n' g1 g2 g3 => ?_⟩
  have p1 := tn_p6 h1
  have p2 := tn_p6 g1
  rcases Nat.lt_or_ge (tn_CO co (tn_pt e b' n') (b' + 1) * 6480 + b' * 1296 + n') x with z | z
  · exact absurd ⟨b', n', g1, g2, g3, rfl⟩ (hl _ z)
  · omega
theorem tn_least32 (P : Nat → Prop) (h : ¬ ∀ c, c < 32 → ¬ P c) : ∃ c, c < 32 ∧ P c ∧ ∀ d, d < c → ¬ P d := by
  obtain ⟨c, h1, h2, h3⟩ := tn_least36 (fun c => c < 32 ∧ P c) (fun z => h fun c hc y => z c (by omega) ⟨hc, y⟩)
  exact ⟨c, h2.1, h2.2, fun d hd y => h3 d hd ⟨by omega, y⟩⟩
end
