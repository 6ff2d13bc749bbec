/-! X's stores: a tunnel made idle, a tunnel put on the found path -/
def tn_pl (nd : Nat → Nat) (t L : Nat) (f : Nat → Nat) : Nat → Nat := fun j => if 6 * t ≤ j ∧ j < 6 * t + L then f (j - 6 * t) else nd j
theorem tn_pl_in {nd f : Nat → Nat} {t L i : Nat} (h : i < L) : tn_pl nd t L f (6 * t + i) = f i := by
  unfold tn_pl
  rw [if_pos (by omega)]
  exact congrArg f (by omega)
theorem tn_pl_out {nd f : Nat → Nat} {t L s i : Nat} (hL : L ≤ 6) (h : s ≠ t) (hi : i < 6) : tn_pl nd t L f (6 * s + i) = nd (6 * s + i) := by
  unfold tn_pl
  rw [if_neg (by omega)]
theorem tn_pl_0 (nd f : Nat → Nat) (t : Nat) : tn_pl nd t 0 f = nd := by
  funext j
  unfold tn_pl
  rw [if_neg (by omega)]
theorem tn_pl_s (nd f : Nat → Nat) (t i : Nat) : upd (tn_I (tn_pl nd t i f)) (6 * t + i) (nI (f i)) = tn_I (tn_pl nd t (i + 1) f) := by
  rw [tn_up_I]
  apply congrArg tn_I
  funext j
  unfold tn_up tn_pl
  by_cases z : j = 6 * t + i
  · rw [if_pos z, if_pos (by omega)]
    exact congrArg f (by omega)
  · rw [if_neg z]
    by_cases y : 6 * t ≤ j ∧ j < 6 * t + i
    · rw [if_pos y, if_pos (by omega)]
    · rw [if_neg y, if_neg (by omega)]
theorem tn_pl_lt {nd f : Nat → Nat} {t L : Nat} (hn : ∀ i, nd i < 6) (hf : ∀ i, i < L → f i < 6) : ∀ j, tn_pl nd t L f j < 6 := by
  intro j
  unfold tn_pl
  split
  · exact hf _ (by omega)
  · exact hn j
theorem tn_pl_eq {nd f g : Nat → Nat} {t L : Nat} (h : ∀ i, i < L → f i = g i) : tn_pl nd t L f = tn_pl nd t L g := by
  funext j
  unfold tn_pl
  split
  · exact h _ (by omega)
  · rfl
theorem tn_ov_n {ln nd : Nat → Nat} {t s x c : Nat} (h : s ≠ t) : tn_ov (tn_up ln t x) nd s c ↔ tn_ov ln nd s c := by
  unfold tn_ov
  rw [tn_up_n h]
theorem tn_ov_0 {ln nd : Nat → Nat} {t c : Nat} : ¬ tn_ov (tn_up ln t 0) nd t c := by
  rintro ⟨i, h, -⟩
  rw [tn_up_s] at h
  omega
theorem tn_ov_pn {ln nd f : Nat → Nat} {t s L c : Nat} (hl : ∀ t, ln t ≤ 6) (hL : L ≤ 6) (h : s ≠ t) : tn_ov (tn_up ln t L) (tn_pl nd t L f) s c ↔ tn_ov ln nd s c := by
  have := hl s
  unfold tn_ov
  rw [tn_up_n h]
  constructor
  · rintro ⟨i, a, b⟩
    rw [tn_pl_out hL h (by omega), Nat.add_assoc, tn_pl_out hL h (by omega)] at b
    exact ⟨i, a, b⟩
  · rintro ⟨i, a, b⟩
    refine ⟨i, a, ?_⟩
    rw [tn_pl_out hL h (by omega), Nat.add_assoc, tn_pl_out hL h (by omega)]
    exact b
theorem tn_ov_ps {ln nd f : Nat → Nat} {t L c : Nat} : tn_ov (tn_up ln t L) (tn_pl nd t L f) t c ↔ ∃ i, i + 1 < L ∧ tn_cd (f i) (f (i + 1)) = c := by
  unfold tn_ov
  rw [tn_up_s]
  constructor
  · rintro ⟨i, a, b⟩
    rw [tn_pl_in (by omega), Nat.add_assoc, tn_pl_in a] at b
    exact ⟨i, a, b⟩
  · rintro ⟨i, a, b⟩
    refine ⟨i, a, ?_⟩
    rw [tn_pl_in (by omega), Nat.add_assoc, tn_pl_in a]
    exact b
section
variable {fl le bl bc : Int32} {th up cl av st wa op rk fn pa be : Nat → Int32} {co ca en bw pr ln nd : Nat → Nat} {tl : Nat → Int64}
theorem tn_TL_idle {t : Nat} (h : tn_TL tl ln nd) : tn_TL (vp_updL tl t 0) (tn_up ln t 0) nd := by
  intro s c hs hc
  by_cases z : s = t
  · subst z
    rw [pk_uLs]
    exact ⟨fun y => absurd y (tn_bt_0 (by omega)), fun y => absurd y tn_ov_0⟩
  · rw [pk_uLn z, tn_ov_n z]
    exact h s c hs hc
theorem tn_x_idle {post : SX → Prop} {t : Nat} (ht : t < 8) (h : post (fl, th, up, tn_I co, tn_I ca, cl, upd st t 1, tn_I en, tn_I bw, tn_I pr, av, vp_updL tl t 0, tn_I nd, tn_I (tn_up ln t 0), op, rk, fn)) : wpX_makeIdle post (fl, th, up, tn_I co, tn_I ca, cl, st, tn_I en, tn_I bw, tn_I pr, av, tl, tn_I nd, tn_I ln, op, rk, fn) (nI t) := by
  have v := tn_v8 ht
  have c : (nI t).toNatClampNeg = t := nI_clamp (by omega)
  refine ⟨v, nm_r (congrArg (fun z => upd st z 1) c) ⟨v, nm_r (congrArg (fun z => vp_updL tl z 0) c) ⟨v, nm_r ((congrArg (fun z => upd (tn_I ln) z 0) c).trans (tn_up_I ln t 0)) h⟩⟩⟩
theorem tn_x_place {post : SX → Prop} {t L : Nat} {f : Nat → Nat} (ht : t < 8) (hL : L ≤ 6) (hl : ∀ t, ln t ≤ 6) (hf : ∀ i, i < L → f i < 6) (ef : ∀ i, i < L → fn i = nI (f i)) (hT : tn_TL tl ln nd)
    (h : ∀ (st' : Nat → Int32) (tl' : Nat → Int64), tn_TL tl' (tn_up ln t L) (tn_pl nd t L f) → (∀ s, s ≠ t → st' s = st s) → st' t = 2 → post (nI L, th, up, tn_I co, tn_I ca, cl, st', tn_I en, tn_I bw, tn_I pr, av, tl', tn_I (tn_pl nd t L f), tn_I (tn_up ln t L), op, rk, fn)) : wpX_placeOnFoundPath post (nI L, th, up, tn_I co, tn_I ca, cl, st, tn_I en, tn_I bw, tn_I pr, av, tl, tn_I nd, tn_I ln, op, rk, fn) (nI t) := by
  have v := tn_v8 ht
  have cc : (nI t).toNatClampNeg = t := nI_clamp (by omega)
  have e2 : tn_up (tn_up ln t 0) t L = tn_up ln t L := by
    funext j
    unfold tn_up
    split <;> rfl
  have fin : ∀ tl' : Nat → Int64, (∀ s, s ≠ t → tl' s = tl s) → (∀ c, c < 36 → (tn_bt (tl' t) c ↔ ∃ j, j + 1 < L ∧ tn_cd (f j) (f (j + 1)) = c)) → wX_placeOnFoundPath_78 post (nI t) (nI L) th up (tn_I co) (tn_I ca) cl (upd st t 1) (tn_I en) (tn_I bw) (tn_I pr) av tl' (tn_I (tn_pl nd t L f)) (tn_I (tn_up ln t 0)) op rk fn := by
    intro tl' h1 h2
    refine ⟨v, nm_r ((congrArg (fun z => upd (tn_I (tn_up ln t 0)) z (nI L)) cc).trans ((tn_up_I _ t L).trans (congrArg tn_I e2))) ⟨v, nm_r (congrArg (fun z => upd (upd st t 1) z 2) cc) (h _ tl' ?_ (fun s hs => by rw [pk_un hs, pk_un hs]) pk_us)⟩⟩
    intro s c hs hc
    by_cases z : s = t
    · subst z
      rw [h2 c hc, tn_ov_ps]
    · rw [h1 s z, tn_ov_pn hl hL z]
      exact hT s c hs hc
  have key : ∀ d i (tl' : Nat → Int64), i + d = L → (∀ s, s ≠ t → tl' s = tl s) → (∀ c, c < 36 → (tn_bt (tl' t) c ↔ ∃ j, j + 1 < i ∧ tn_cd (f j) (f (j + 1)) = c)) → wX_placeOnFoundPath_7 post (nI t) (nI L) (d + 1) (nI i) th up (tn_I co) (tn_I ca) cl (upd st t 1) (tn_I en) (tn_I bw) (tn_I pr) av tl' (tn_I (tn_pl nd t i f)) (tn_I (tn_up ln t 0)) op rk fn := by
    intro d
    induction d with
    | zero =>
      intro i tl' hi h1 h2
      have : i = L := by omega
      subst this
      exact br_c (fun _ => fin tl' h1 h2) (fun _ => br_t (Int32.le_refl _) (fin tl' h1 h2))
    | succ d ih =>
      intro i tl' hi h1 h2
      refine br_f (tn_i6 (by omega)) (br_f (nI_ge (by omega) (by omega)) ⟨tn_v6 (by omega), ?_⟩)
      rw [tn_6ab, nI_clamp (show 6 * t + i < 2 ^ 31 by omega), nI_clamp (show i < 2 ^ 31 by omega), ef i (by omega)]
      refine ⟨tn_v48 (by omega), nm_r (tn_pl_s nd f t i) ?_⟩
      rcases Nat.eq_zero_or_pos i with z | z
      · subst z
        refine br_t (Int32.le_refl _) (nm_r (nI_1 0) (ih 1 tl' (by omega) h1 fun c hc => ?_))
        rw [h2 c hc]
        exact ⟨fun ⟨j, a, _⟩ => by omega, fun ⟨j, a, _⟩ => by omega⟩
      · obtain ⟨j, rfl⟩ : ∃ j, i = j + 1 := ⟨i - 1, by omega⟩
        refine br_f (nI_nle (by omega) (by omega)) ?_
        rw [nI_pred, nI_clamp (show j < 2 ^ 31 by omega), ef j (by omega), cc]
        have f1 := hf j (by omega)
        have f2 := hf (j + 1) (by omega)
        have c36 := tn_cd_lt f1 f2
        refine ⟨tn_v6 (by omega), tn_v6 (by omega), tn_x_code (by omega) (by omega) ⟨v, v, nm_e (nm_r (nI_1 (j + 1)) (ih (j + 1 + 1) _ (by omega) (fun s hs => by rw [pk_uLn hs]; exact h1 s hs) fun c hc => ?_))⟩⟩
        rw [pk_uLs, tn_bt_or _ (by omega) (by omega), h2 c hc]
        constructor
        · rintro (⟨a, b1, b2⟩ | b)
          · exact ⟨a, by omega, b2⟩
          · exact ⟨j, by omega, b⟩
        · rintro ⟨a, b1, b2⟩
          rcases Nat.lt_or_ge (a + 1) (j + 1) with y | y
          · exact Or.inl ⟨a, y, b2⟩
          · have : a = j := by omega
            subst this
            exact Or.inr b2
  unfold wpX_placeOnFoundPath
  refine tn_x_idle ht ?_
  refine ⟨L + 1, ?_⟩
  have k := key L 0 (vp_updL tl t 0) (by omega) (fun s hs => pk_uLn hs) fun c hc => by
    rw [pk_uLs]
    exact ⟨fun y => absurd y (tn_bt_0 (by omega)), fun ⟨j, a, _⟩ => by omega⟩
  rw [tn_pl_0] at k
  exact k
end
