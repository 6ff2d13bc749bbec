/-! bridge, groups: five rounds reach what six reach -/
def tn_js (a b s : Nat) : Nat := if s.testBit a || s.testBit b then s ||| (2 ^ a ||| 2 ^ b) else s
theorem tn_b1 : ∀ s, s < 64 → ∀ a, a < 6 → ∀ b, b < 6 → ((nI s &&& (((1 : Int32) <<< (nI a &&& 31)) ||| ((1 : Int32) <<< (nI b &&& 31)))) = 0 ↔ (s.testBit a || s.testBit b) = false) := by decide +kernel
theorem tn_b2 : ∀ s, s < 64 → ∀ a, a < 6 → ∀ b, b < 6 → nI s ||| (((1 : Int32) <<< (nI a &&& 31)) ||| ((1 : Int32) <<< (nI b &&& 31))) = nI (s ||| (2 ^ a ||| 2 ^ b)) := by decide +kernel
theorem tn_b3 : ∀ s, s < 64 → ∀ a, a < 6 → (((nI s >>> (nI a &&& 31)) &&& 1) = 1 ↔ s.testBit a = true) := by decide +kernel
theorem tn_b4 : ∀ s, s < 64 → ∀ a, a < 6 → ∀ b, b < 6 → s.testBit a = true → nI s ||| ((1 : Int32) <<< (nI b &&& 31)) = nI (s ||| (2 ^ a ||| 2 ^ b)) := by decide +kernel
theorem tn_b5 : ∀ s, s < 64 → ∀ a, a < 6 → ∀ b, b < 6 → s.testBit b = true → nI s ||| ((1 : Int32) <<< (nI a &&& 31)) = nI (s ||| (2 ^ a ||| 2 ^ b)) := by decide +kernel
theorem tn_b6 : ∀ s, s < 64 → ∀ a, a < 6 → ∀ b, b < 6 → tn_js a b s < 64 ∧ s &&& tn_js a b s = s := by decide +kernel
theorem tn_b7 : ∀ a, a < 6 → ((1 : Int32) <<< (nI a &&& 31)) = nI (2 ^ a) ∧ 2 ^ a < 64 := by decide +kernel
def tn_pc (s : Nat) : Nat := s % 2 + s / 2 % 2 + s / 4 % 2 + s / 8 % 2 + s / 16 % 2 + s / 32 % 2
theorem tn_b8 : ∀ s, s < 64 → ∀ t, t < 64 → s &&& t = s → s ≠ t → tn_pc s < tn_pc t := by decide +kernel
theorem tn_b9 : ∀ s, s < 64 → 6 ≤ tn_pc s → s = 63 := by decide +kernel
theorem tn_b10 : ∀ s, s < 64 → 63 &&& s = 63 → s = 63 := by decide +kernel
theorem tn_b11 : ∀ a, a < 6 → tn_pc (2 ^ a) = 1 := by decide +kernel
noncomputable def tn_st (U : Nat → Prop) (c s : Nat) : Nat := @ite Nat (U c) (Classical.propDecidable _) (tn_js (c / 6) (c % 6) s) s
theorem tn_st_t {U : Nat → Prop} {c s : Nat} (h : U c) : tn_st U c s = tn_js (c / 6) (c % 6) s := by unfold tn_st; rw [if_pos h]
theorem tn_st_f {U : Nat → Prop} {c s : Nat} (h : ¬ U c) : tn_st U c s = s := by unfold tn_st; rw [if_neg h]
noncomputable def tn_rd (U : Nat → Prop) (s : Nat) : Nat → Nat
  | 0 => s
  | c + 1 => tn_st U c (tn_rd U s c)
noncomputable def tn_it (U : Nat → Prop) (s : Nat) : Nat → Nat
  | 0 => s
  | n + 1 => tn_rd U (tn_it U s n) 36
theorem tn_sub_tr {s t r : Nat} (h1 : s &&& t = s) (h2 : t &&& r = t) : s &&& r = s := by
  rw [← h1, Nat.and_assoc, h2]
theorem tn_rd_sub {U : Nat → Prop} {s : Nat} (hs : s < 64) : ∀ c, c ≤ 36 → tn_rd U s c < 64 ∧ s &&& tn_rd U s c = s
  | 0, _ => ⟨hs, Nat.and_self s⟩
  | c + 1, hc => by
    have a := tn_rd_sub (U := U) hs c (by omega)
    simp only [tn_rd]
    rcases Classical.em (U c) with h | h
    · rw [tn_st_t h]
      have b := tn_b6 _ a.1 (c / 6) (by omega) (c % 6) (by omega)
      exact ⟨b.1, tn_sub_tr a.2 b.2⟩
    · rw [tn_st_f h]
      exact a
theorem tn_it_lt {U : Nat → Prop} {s : Nat} (hs : s < 64) : ∀ n, tn_it U s n < 64
  | 0 => hs
  | n + 1 => (tn_rd_sub (tn_it_lt hs n) 36 (Nat.le_refl _)).1
theorem tn_it_fix {U : Nat → Prop} {a : Nat} (ha : a < 6) : ∀ n, tn_it U (2 ^ a) (n + 1) = tn_it U (2 ^ a) n ∨ n + 1 ≤ tn_pc (tn_it U (2 ^ a) n)
  | 0 => Or.inr (by show 1 ≤ tn_pc (2 ^ a); rw [tn_b11 a ha]; omega)
  | n + 1 => by
    have l := tn_it_lt (U := U) (tn_b7 a ha).2 n
    have q := tn_rd_sub (U := U) l 36 (Nat.le_refl _)
    rcases tn_it_fix (U := U) ha n with h | h
    · refine Or.inl ?_
      show tn_rd U (tn_it U (2 ^ a) (n + 1)) 36 = _
      rw [h]
      exact h
    · by_cases z : tn_it U (2 ^ a) n = tn_it U (2 ^ a) (n + 1)
      · refine Or.inl ?_
        show tn_rd U (tn_it U (2 ^ a) (n + 1)) 36 = _
        rw [← z]
        exact z.symm
      · have := tn_b8 _ l _ q.1 q.2 z
        refine Or.inr ?_
        have e : tn_rd U (tn_it U (2 ^ a) n) 36 = tn_it U (2 ^ a) (n + 1) := rfl
        rw [e] at this
        omega
theorem tn_it_6 {U : Nat → Prop} {a : Nat} (ha : a < 6) : tn_it U (2 ^ a) 6 = tn_it U (2 ^ a) 5 := by
  rcases tn_it_fix (U := U) ha 5 with h | h
  · exact h
  · have l := tn_it_lt (U := U) (tn_b7 a ha).2 5
    have q := tn_rd_sub (U := U) l 36 (Nat.le_refl _)
    have e := tn_b9 _ l h
    show tn_rd U (tn_it U (2 ^ a) 5) 36 = _
    rw [e] at q ⊢
    exact tn_b10 _ q.1 q.2
section
variable {fl le bl bc : Int32} {th up cl av st wa op rk fn pa be : Nat → Int32} {co ca en bw pr ln nd : Nat → Nat} {tl : Nat → Int64}
def tn_U (th up : Nat → Int32) (q : Int32) (c : Nat) : Prop := ¬ nI c = q ∧ th c ≠ 0 ∧ up c ≠ 0
theorem tn_x_reach {post : Int32 → Prop} {a : Nat} {q : Int32} (ha : a < 6) (h : post (nI (tn_it (tn_U th up q) (2 ^ a) 5))) : wpX_reachedFrom post (fl, th, up, tn_I co, tn_I ca, cl, st, tn_I en, tn_I bw, tn_I pr, av, tl, tn_I nd, tn_I ln, op, rk, fn) (nI a) q := by
  have inner : ∀ (J : Int32 → Int32 → Prop) (y s : Nat), s < 64 → J (nI (tn_rd (tn_U th up q) s 36)) (nI (y + 1)) → ∀ d c, c + d = 36 → wX_reachedFrom_17 post J q (nI y) fl th up (tn_I co) (tn_I ca) cl st (tn_I en) (tn_I bw) (tn_I pr) av tl (tn_I nd) (tn_I ln) op rk fn (d + 1) (nI (tn_rd (tn_U th up q) s c)) (nI c) := by
    intro J y s hs hJ d
    induction d with
    | zero =>
      intro c hc
      have : c = 36 := by omega
      subst this
      exact br_t (by decide) (nm_r (nI_1 y) hJ)
    | succ d ih =>
      intro c hc
      have r := ih (c + 1) (by omega)
      have l := (tn_rd_sub (U := tn_U th up q) hs c (by omega)).1
      have c31 : c < 2 ^ 31 := by omega
      have stay : tn_st (tn_U th up q) c (tn_rd (tn_U th up q) s c) = tn_rd (tn_U th up q) s c → wX_reachedFrom_17 post J q (nI y) fl th up (tn_I co) (tn_I ca) cl st (tn_I en) (tn_I bw) (tn_I pr) av tl (tn_I nd) (tn_I ln) op rk fn (d + 1) (nI (tn_rd (tn_U th up q) s c)) (nI (c + 1)) := by
        intro z
        simp only [tn_rd, z] at r
        exact r
      have b1 := tn_b1 _ l (c / 6) (by omega) (c % 6) (by omega)
      have b2 := tn_b2 _ l (c / 6) (by omega) (c % 6) (by omega)
      rw [wX_reachedFrom_17]
      dsimp only
      rw [tn_r6 c31, tn_d6 c31, nI_clamp c31]
      refine br_f (tn_i36 (by omega)) ⟨tn_6, tn_6, nm_e (br_c (fun z => nm_r (nI_1 c) (stay (tn_st_f fun y => y.1 z))) (fun z1 => ⟨tn_v36 (by omega), br_c (fun z => nm_r (nI_1 c) (stay (tn_st_f fun y => y.2.1 z))) (fun z2 => ⟨tn_v36 (by omega), br_c (fun z => nm_r (nI_1 c) (stay (tn_st_f fun y => y.2.2 z))) (fun z3 => ?_)⟩)⟩))⟩
      have u : tn_U th up q c := ⟨z1, z2, z3⟩
      refine br_c (fun z => nm_r (nI_1 c) (stay ?_)) (fun z => nm_r ?_ (nm_r (nI_1 c) r))
      · rw [tn_st_t u, tn_js, if_neg (by rw [b1.1 z]; decide)]
      · rw [b2]
        simp only [tn_rd]
        rw [tn_st_t u, tn_js, if_pos]
        exact Classical.byContradiction fun w => z (b1.2 (Bool.eq_false_iff.2 w))
  have outer : ∀ d n, n + d = 5 → wX_reachedFrom_7 post q fl th up (tn_I co) (tn_I ca) cl st (tn_I en) (tn_I bw) (tn_I pr) av tl (tn_I nd) (tn_I ln) op rk fn (d + 1) (nI (tn_it (tn_U th up q) (2 ^ a) n)) (nI (n + 1)) := by
    intro d
    induction d with
    | zero =>
      intro n hn
      have : n = 5 := by omega
      subst this
      exact br_t (by decide) h
    | succ d ih =>
      intro n hn
      exact br_f (tn_i6 (by omega)) ⟨37, inner _ (n + 1) _ (tn_it_lt (tn_b7 a ha).2 n) (ih (n + 1) (by omega)) 36 0 (by omega)⟩
  exact nm_r (tn_b7 a ha).1 ⟨6, outer 5 0 (by omega)⟩
theorem tn_y_reach {post : Int32 → Prop} {a : Nat} {q : Int32} (ha : a < 6) (h : post (nI (tn_it (tn_U th up q) (2 ^ a) 6))) : wpY_reached post (le, bl, bc, th, tn_I co, tn_I ca, cl, up, wa, tn_I en, tn_I bw, tn_I pr, av, tn_I ln, tn_I nd, pa, be) (nI a) q := by
  have inner : ∀ (J : Int32 → Int32 → Prop) (y s : Nat), s < 64 → J (nI (tn_rd (tn_U th up q) s 36)) (nI (y + 1)) → ∀ d c, c + d = 36 → wY_reached_17 post J q (nI y) le bl bc th (tn_I co) (tn_I ca) cl up wa (tn_I en) (tn_I bw) (tn_I pr) av (tn_I ln) (tn_I nd) pa be (d + 1) (nI (tn_rd (tn_U th up q) s c)) (nI c) := by
    intro J y s hs hJ d
    induction d with
    | zero =>
      intro c hc
      have : c = 36 := by omega
      subst this
      exact br_t (by decide) (nm_r (nI_1 y) hJ)
    | succ d ih =>
      intro c hc
      have r := ih (c + 1) (by omega)
      have l := (tn_rd_sub (U := tn_U th up q) hs c (by omega)).1
      have c31 : c < 2 ^ 31 := by omega
      have stay : tn_st (tn_U th up q) c (tn_rd (tn_U th up q) s c) = tn_rd (tn_U th up q) s c → wY_reached_17 post J q (nI y) le bl bc th (tn_I co) (tn_I ca) cl up wa (tn_I en) (tn_I bw) (tn_I pr) av (tn_I ln) (tn_I nd) pa be (d + 1) (nI (tn_rd (tn_U th up q) s c)) (nI (c + 1)) := by
        intro z
        simp only [tn_rd, z] at r
        exact r
      have b3 := tn_b3 _ l (c / 6) (by omega)
      have b3' := tn_b3 _ l (c % 6) (by omega)
      have b4 := tn_b4 _ l (c / 6) (by omega) (c % 6) (by omega)
      have b5 := tn_b5 _ l (c / 6) (by omega) (c % 6) (by omega)
      rw [wY_reached_17]
      dsimp only
      rw [tn_r6 c31, tn_d6 c31, nI_clamp c31]
      refine br_f (tn_i36 (by omega)) (br_c (fun z => nm_r (nI_1 c) (stay (tn_st_f fun y => y.1 z))) (fun z1 => ⟨tn_v36 (by omega), br_c (fun z => nm_r (nI_1 c) (stay (tn_st_f fun y => y.2.1 z))) (fun z2 => ⟨tn_v36 (by omega), br_c (fun z => nm_r (nI_1 c) (stay (tn_st_f fun y => y.2.2 z))) (fun z3 => ⟨tn_6, ?_⟩)⟩)⟩))
      have u : tn_U th up q c := ⟨z1, z2, z3⟩
      simp only [tn_rd, tn_st_t u] at r
      unfold tn_js at r
      refine br_c (fun z => ⟨tn_6, ?_⟩) (fun z => ⟨tn_6, br_c (fun w => ⟨tn_6, ?_⟩) (fun w => nm_r (nI_1 c) (stay ?_))⟩)
      · rw [if_pos (by rw [b3.1 z]; rfl)] at r
        exact nm_r (b4 (b3.1 z)) (nm_r (nI_1 c) r)
      · rw [if_pos (by rw [b3'.1 w, Bool.or_true])] at r
        exact nm_r (b5 (b3'.1 w)) (nm_r (nI_1 c) r)
      · rw [tn_st_t u, tn_js, if_neg]
        rw [Bool.eq_false_iff.2 (fun v => z (b3.2 v)), Bool.eq_false_iff.2 (fun v => w (b3'.2 v))]
        decide
  have outer : ∀ d n, n + d = 6 → wY_reached_7 post q le bl bc th (tn_I co) (tn_I ca) cl up wa (tn_I en) (tn_I bw) (tn_I pr) av (tn_I ln) (tn_I nd) pa be (d + 1) (nI (tn_it (tn_U th up q) (2 ^ a) n)) (nI n) := by
    intro d
    induction d with
    | zero =>
      intro n hn
      have : n = 6 := by omega
      subst this
      exact br_t (by decide) h
    | succ d ih =>
      intro n hn
      exact br_f (tn_i6 (by omega)) ⟨37, inner _ n _ (tn_it_lt (tn_b7 a ha).2 n) (ih (n + 1) (by omega)) 36 0 (by omega)⟩
  exact nm_r (tn_b7 a ha).1 ⟨7, outer 6 0 (by omega)⟩
noncomputable def tn_gr (th up : Nat → Int32) : Nat → Nat
  | 0 => 0
  | i + 1 => tn_gr th up i + tn_q ((nI (tn_it (tn_U th up (-1)) (2 ^ i) 5) &&& (((1 : Int32) <<< (nI i &&& 31)) - 1)) = 0) 1
theorem tn_x_gr {post : Int32 → Prop} (h : post (nI (tn_gr th up 6))) : wpX_groups post (fl, th, up, tn_I co, tn_I ca, cl, st, tn_I en, tn_I bw, tn_I pr, av, tl, tn_I nd, tn_I ln, op, rk, fn) := by
  have key : ∀ d i, i + d = 6 → wX_groups_4 post fl th up (tn_I co) (tn_I ca) cl st (tn_I en) (tn_I bw) (tn_I pr) av tl (tn_I nd) (tn_I ln) op rk fn (d + 1) (nI (tn_gr th up i)) (nI i) := by
    intro d
    induction d with
    | zero =>
      intro i hi
      have : i = 6 := by omega
      subst this
      exact br_t (by decide) h
    | succ d ih =>
      intro i hi
      have q := ih (i + 1) (by omega)
      rw [wX_groups_4]
      refine br_f (tn_i6 (by omega)) (tn_x_reach (by omega) (nm_e (br_c (fun z => ?_) (fun z => ?_))))
      · simp only [tn_gr, tn_q_t z] at q
        exact nm_r (nI_1 _) (nm_r (nI_1 i) q)
      · simp only [tn_gr, tn_q_f z, Nat.add_zero] at q
        exact nm_r (nI_1 i) q
  exact ⟨7, key 6 0 (by omega)⟩
theorem tn_y_gr {post : Int32 → Prop} (h : post (nI (tn_gr th up 6))) : wpY_groups post (le, bl, bc, th, tn_I co, tn_I ca, cl, up, wa, tn_I en, tn_I bw, tn_I pr, av, tn_I ln, tn_I nd, pa, be) := by
  have key : ∀ d i, i + d = 6 → wY_groups_4 post le bl bc th (tn_I co) (tn_I ca) cl up wa (tn_I en) (tn_I bw) (tn_I pr) av (tn_I ln) (tn_I nd) pa be (d + 1) (nI (tn_gr th up i)) (nI i) := by
    intro d
    induction d with
    | zero =>
      intro i hi
      have : i = 6 := by omega
      subst this
      exact br_t (by decide) h
    | succ d ih =>
      intro i hi
      have q := ih (i + 1) (by omega)
      rw [wY_groups_4]
      refine br_f (tn_i6 (by omega)) (nm_e (tn_y_reach (by omega) ?_))
      rw [tn_it_6 (show i < 6 by omega)]
      refine br_c (fun z => ?_) (fun z => ?_)
      · simp only [tn_gr, tn_q_t z] at q
        exact nm_r (nI_1 _) (nm_r (nI_1 i) q)
      · simp only [tn_gr, tn_q_f z, Nat.add_zero] at q
        exact nm_r (nI_1 i) q
  exact ⟨7, key 6 0 (by omega)⟩
end
