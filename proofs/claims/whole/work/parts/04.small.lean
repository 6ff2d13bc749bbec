/-! the small methods of both sides -/
abbrev tn_I (f : Nat → Nat) : Nat → Int32 := fun i => nI (f i)
def tn_up (f : Nat → Nat) (k x : Nat) : Nat → Nat := fun j => if j = k then x else f j
theorem tn_up_s (f : Nat → Nat) (k x : Nat) : tn_up f k x k = x := if_pos rfl
theorem tn_up_n {f : Nat → Nat} {k x j : Nat} (h : j ≠ k) : tn_up f k x j = f j := if_neg h
theorem tn_up_I (f : Nat → Nat) (k x : Nat) : upd (tn_I f) k (nI x) = tn_I (tn_up f k x) := by
  funext j
  show (if j = k then nI x else nI (f j)) = nI (if j = k then x else f j)
  split <;> rfl
theorem tn_up_le {f : Nat → Nat} {k x b : Nat} (h : ∀ i, f i ≤ b) (hx : x ≤ b) : ∀ i, tn_up f k x i ≤ b := fun i => by
  unfold tn_up
  split
  · exact hx
  · exact h i
noncomputable def tn_q (P : Prop) (x : Nat) : Nat := @ite Nat P (Classical.propDecidable P) x 0
theorem tn_q_t {P : Prop} {x : Nat} (h : P) : tn_q P x = x := by unfold tn_q; rw [if_pos h]
theorem tn_q_f {P : Prop} {x : Nat} (h : ¬ P) : tn_q P x = 0 := by unfold tn_q; rw [if_neg h]
theorem tn_q_le {P : Prop} {x : Nat} : tn_q P x ≤ x := by
  rcases Classical.em P with h | h
  · rw [tn_q_t h]; exact Nat.le_refl _
  · rw [tn_q_f h]; exact Nat.zero_le _
theorem tn_q_mono {P Q : Prop} {x : Nat} (h : P → Q) : tn_q P x ≤ tn_q Q x := by
  rcases Classical.em P with hp | hp
  · rw [tn_q_t hp, tn_q_t (h hp)]; exact Nat.le_refl _
  · rw [tn_q_f hp]; exact Nat.zero_le _
theorem tn_q_iff {P Q : Prop} {x : Nat} (h : P ↔ Q) : tn_q P x = tn_q Q x := Nat.le_antisymm (tn_q_mono h.1) (tn_q_mono h.2)
def tn_ov (ln nd : Nat → Nat) (t c : Nat) : Prop := ∃ i, i + 1 < ln t ∧ tn_cd (nd (6 * t + i)) (nd (6 * t + i + 1)) = c
noncomputable def tn_tk (bw pr ln nd : Nat → Nat) (q : Int32) (p c : Nat) : Nat := tn_sm (fun t => tn_q (nI t ≠ q ∧ pr t ≤ p ∧ tn_ov ln nd t c) (bw t)) 8
noncomputable def tn_ld (bw ln nd : Nat → Nat) (c : Nat) : Nat := tn_sm (fun t => tn_q (tn_ov ln nd t c) (bw t)) 8
theorem tn_tk_le {bw pr ln nd : Nat → Nat} (hb : ∀ t, bw t ≤ 100) (q : Int32) (p c : Nat) : tn_tk bw pr ln nd q p c ≤ 800 := tn_sm_bd (n := 8) (b := 100) fun i _ => Nat.le_trans tn_q_le (hb i)
theorem tn_ld_le {bw ln nd : Nat → Nat} (hb : ∀ t, bw t ≤ 100) (c : Nat) : tn_ld bw ln nd c ≤ 800 := tn_sm_bd (n := 8) (b := 100) fun i _ => Nat.le_trans tn_q_le (hb i)
theorem tn_ne_m1 {t : Nat} (h : t < 2 ^ 31) : nI t ≠ -1 := by
  intro z
  have a := congrArg Int32.toInt z
  rw [nI_toInt h, show (-1 : Int32).toInt = -1 from by decide] at a
  omega
theorem tn_tk_ld {bw pr ln nd : Nat → Nat} (hp : ∀ t, pr t ≤ 3) (c : Nat) : tn_tk bw pr ln nd (-1) 3 c = tn_ld bw ln nd c :=
  tn_sm_eq fun t ht => tn_q_iff ⟨fun h => h.2.2, fun h => ⟨tn_ne_m1 (by omega), hp t, h⟩⟩
def tn_bt (x : Int64) (c : Nat) : Prop := ((x >>> ((nI c).toInt64 &&& 63)) &&& 1) = 1
theorem tn_and1 (v : BitVec 64) : v &&& 1#64 = 1#64 ↔ v.getLsbD 0 = true := by
  constructor
  · intro h
    have a := congrArg (fun z => BitVec.getLsbD z 0) h
    simpa using a
  · intro h
    apply BitVec.eq_of_getLsbD_eq
    intro i hi
    by_cases z : i = 0
    · subst z
      simp only [BitVec.getLsbD_and, h, Bool.true_and]
    · have e : (1#64).getLsbD i = false := by simp [z]
      simp only [BitVec.getLsbD_and, e, Bool.and_false]
theorem tn_bt_iff (x : Int64) {c : Nat} (hc : c < 64) : tn_bt x c ↔ x.toBitVec.getLsbD c = true := by
  unfold tn_bt
  rw [wb_c c hc, ← Int64.toBitVec_inj, Int64.toBitVec_and, Int64.toBitVec_shiftRight, wb_tb]
  show (x.toBitVec.sshiftRight ((BitVec.ofNat 64 c).smod 64).toNat) &&& 1#64 = 1#64 ↔ _
  rw [wb_sm c hc, BitVec.toNat_ofNat, Nat.mod_eq_of_lt (by omega), tn_and1, BitVec.getLsbD_sshiftRight]
  simp [hc]
theorem tn_bt_0 {c : Nat} (hc : c < 64) : ¬ tn_bt 0 c := by
  rw [tn_bt_iff 0 hc]
  simp
theorem tn_bt_or (x : Int64) {c d : Nat} (hc : c < 64) (hd : d < 64) : tn_bt (x ||| ((1 : Int64) <<< ((nI d).toInt64 &&& 63))) c ↔ tn_bt x c ∨ d = c := by
  rw [tn_bt_iff _ hc, tn_bt_iff _ hc, wb_c d hd, Int64.toBitVec_or, Int64.toBitVec_shiftLeft, wb_tb, wb_sm d hd]
  show ((x.toBitVec ||| (1#64 <<< (BitVec.ofNat 64 d).toNat)).getLsbD c = true) ↔ _
  rw [BitVec.toNat_ofNat, Nat.mod_eq_of_lt (by omega), BitVec.getLsbD_or, BitVec.getLsbD_shiftLeft]
  simp only [hc, decide_true, Bool.true_and, Bool.or_eq_true, Bool.and_eq_true, Bool.not_eq_true', decide_eq_false_iff_not]
  constructor
  · rintro (h | ⟨h1, h2⟩)
    · exact Or.inl h
    · have : c - d = 0 := by
        rcases Nat.eq_zero_or_pos (c - d) with z | z
        · exact z
        · simp [show c - d ≠ 0 by omega] at h2
      exact Or.inr (by omega)
  · rintro (h | h)
    · exact Or.inl h
    · subst h
      exact Or.inr ⟨by omega, by simp⟩
theorem tn_le1 {a i : Nat} (ha : a < 2 ^ 30) (hi : i < 2 ^ 30) : (nI a - 1 ≤ nI i) ↔ a ≤ i + 1 := by
  rw [show (1 : Int32) = nI 1 from rfl, Int32.le_iff_toInt_le, pk_sub_toInt ha (by decide), nI_toInt (by omega)]
  omega
theorem tn_i8 {i : Nat} (h : i < 8) : ¬ (8 : Int32) ≤ nI i := nI_ge (b := 8) h (by decide)
theorem tn_i36 {i : Nat} (h : i < 36) : ¬ (36 : Int32) ≤ nI i := nI_ge (b := 36) h (by decide)
theorem tn_i6 {i : Nat} (h : i < 6) : ¬ (6 : Int32) ≤ nI i := nI_ge (b := 6) h (by decide)
theorem tn_6 : ¬ (6 : Int32) = 0 := by decide
theorem tn_8 : ¬ (8 : Int32) = 0 := by decide
theorem tn_d6 {a : Nat} (h : a < 2 ^ 31) : nI a / 6 = nI (a / 6) := pk_div (d := 6) h (by decide) (by decide)
theorem tn_r6 {a : Nat} (h : a < 2 ^ 31) : nI a - nI a / 6 * 6 = nI (a % 6) := pk_rem (d := 6) h (by decide) (by decide)
theorem tn_d8 {a : Nat} (h : a < 2 ^ 31) : nI a / 8 = nI (a / 8) := pk_div (d := 8) h (by decide) (by decide)
theorem tn_r8 {a : Nat} (h : a < 2 ^ 31) : nI a - nI a / 8 * 8 = nI (a % 8) := pk_rem (d := 8) h (by decide) (by decide)
theorem tn_6ab (a b : Nat) : 6 * nI a + nI b = nI (6 * a + b) := by
  rw [show (6 : Int32) = nI 6 from rfl, pk_mul, nI_add]
theorem tn_cl {j : Nat} (f : Nat → Int32) (h : j < 2 ^ 31) : f (nI j).toNatClampNeg = f j := congrArg f (nI_clamp h)
theorem tn_clL {j : Nat} (f : Nat → Int64) (h : j < 2 ^ 31) : f (nI j).toNatClampNeg = f j := congrArg f (nI_clamp h)
theorem tn_v8 {j : Nat} (h : j < 8) : vp_in (nI j) 8 := vp_in_nI h (by decide)
theorem tn_v6 {j : Nat} (h : j < 6) : vp_in (nI j) 6 := vp_in_nI h (by decide)
theorem tn_v36 {j : Nat} (h : j < 36) : vp_in (nI j) 36 := vp_in_nI h (by decide)
theorem tn_v48 {j : Nat} (h : j < 48) : vp_in (nI j) 48 := vp_in_nI h (by decide)
section
variable {fl le bl bc : Int32} {th up cl av st wa op rk fn pa be : Nat → Int32} {co ca en bw pr ln nd : Nat → Nat} {tl : Nat → Int64}
def tn_TL (tl : Nat → Int64) (ln nd : Nat → Nat) : Prop := ∀ t c, t < 8 → c < 36 → (tn_bt (tl t) c ↔ tn_ov ln nd t c)
theorem tn_x_isOver {post : Int32 → Prop} {t c : Nat} (ht : t < 8) (hc : c < 36) (hT : tn_TL tl ln nd) (h1 : tn_ov ln nd t c → post 1) (h0 : ¬ tn_ov ln nd t c → post 0) : wpX_isOver post (fl, th, up, tn_I co, tn_I ca, cl, st, tn_I en, tn_I bw, tn_I pr, av, tl, tn_I nd, tn_I ln, op, rk, fn) (nI t) (nI c) := by
  refine ⟨tn_v8 ht, ?_⟩
  rw [tn_clL tl (by omega)]
  exact ⟨fun h => h1 ((hT t c ht hc).1 h), fun h => h0 fun z => h ((hT t c ht hc).2 z)⟩
theorem tn_x_code {post : Int32 → Prop} {a b : Nat} (ha : a < 2 ^ 20) (hb : b < 2 ^ 20) (h : post (nI (tn_cd a b))) : wpX_codeBetween post (nI a) (nI b) := by
  unfold tn_cd at h
  refine pk_le b a (fun z => ?_) (fun z => ?_)
  · rw [if_neg (by omega)] at h
    rw [tn_6ab]; exact h
  · rw [if_pos z] at h
    rw [tn_6ab]; exact h
theorem tn_y_code {post : Int32 → Prop} {a b : Nat} (ha : a < 2 ^ 20) (hb : b < 2 ^ 20) (h : post (nI (tn_cd a b))) : wpY_codeOf post (le, bl, bc, th, tn_I co, tn_I ca, cl, up, wa, tn_I en, tn_I bw, tn_I pr, av, tn_I ln, tn_I nd, pa, be) (nI a) (nI b) := by
  unfold tn_cd at h
  refine pk_le b a (fun z => ?_) (fun z => ?_)
  · rw [if_neg (by omega)] at h
    rw [tn_6ab]; exact h
  · rw [if_pos z] at h
    rw [tn_6ab]; exact h
theorem tn_y_isOver {post : Int32 → Prop} {t c : Nat} (ht : t < 8) (hc : c < 36) (hl : ∀ t, ln t ≤ 6) (hn : ∀ i, nd i < 6) (h1 : tn_ov ln nd t c → post 1) (h0 : ¬ tn_ov ln nd t c → post 0) : wpY_isOver post (le, bl, bc, th, tn_I co, tn_I ca, cl, up, wa, tn_I en, tn_I bw, tn_I pr, av, tn_I ln, tn_I nd, pa, be) (nI t) (nI c) := by
  have hl6 := hl t
  have key : ∀ d i, ln t ≤ i + d → i + d ≤ 6 → (∀ j, j < i → j + 1 < ln t → tn_cd (nd (6 * t + j)) (nd (6 * t + j + 1)) ≠ c) → wY_isOver_2 post (nI t) (nI c) le bl bc th (tn_I co) (tn_I ca) cl up wa (tn_I en) (tn_I bw) (tn_I pr) av (tn_I ln) (tn_I nd) pa be (d + 1) (nI i) := by
    intro d
    induction d with
    | zero =>
      intro i hi hi6 hj
      refine ⟨tn_v8 ht, br_t ?_ (h0 ?_)⟩
      · rw [tn_cl (tn_I ln) (by omega)]
        exact (tn_le1 (by omega) (by omega)).2 (by omega)
      · rintro ⟨j, a, b⟩
        exact hj j (by omega) a b
    | succ d ih =>
      intro i hi hi6 hj
      refine ⟨tn_v8 ht, ?_⟩
      rw [tn_cl (tn_I ln) (by omega)]
      by_cases z : ln t ≤ i + 1
      · refine br_t ((tn_le1 (by omega) (by omega)).2 z) (h0 ?_)
        rintro ⟨j, a, b⟩
        exact hj j (by omega) a b
      · refine br_f (fun y => z ((tn_le1 (by omega) (by omega)).1 y)) ?_
        rw [tn_6ab, nI_1]
        refine ⟨tn_v48 (by omega), tn_v48 (by omega), ?_⟩
        rw [tn_cl (tn_I nd) (by omega), tn_cl (tn_I nd) (by omega)]
        have a1 := hn (6 * t + i)
        have a2 := hn (6 * t + i + 1)
        refine tn_y_code (by omega) (by omega) ?_
        have lt := tn_cd_lt a1 a2
        refine pk_eq _ c (fun e => h1 ⟨i, by omega, e⟩) (fun e => ?_) rfl rfl (by omega) (by omega)
        refine nm_r (nI_1 i) (ih (i + 1) (by omega) (by omega) fun j hj1 hj2 => ?_)
        rcases Nat.lt_or_ge j i with y | y
        · exact hj j y hj2
        · have : j = i := by omega
          subst this
          exact e
  exact ⟨7, key 6 0 (by omega) (by omega) (fun j hj => absurd hj (Nat.not_lt_zero j))⟩
def tn_OP (th up cl : Nat → Int32) (a : Int32) (c : Nat) : Prop := th c ≠ 0 ∧ up c ≠ 0 ∧ (cl c &&& a) = 0
theorem tn_x_use {post : Int32 → Prop} {c : Nat} {a : Int32} (hc : c < 36) (h1 : tn_OP th up cl a c → post 1) (h0 : ¬ tn_OP th up cl a c → post 0) : wpX_isUsable post (fl, th, up, tn_I co, tn_I ca, cl, st, tn_I en, tn_I bw, tn_I pr, av, tl, tn_I nd, tn_I ln, op, rk, fn) (nI c) a := by
  have v := tn_v36 hc
  unfold wpX_isUsable
  dsimp only
  rw [nI_clamp (show c < 2 ^ 31 by omega)]
  refine ⟨v, br_c (fun z => h0 fun y => y.1 z) (fun z => ⟨v, br_c (fun z2 => h0 fun y => y.2.1 z2) (fun z2 => ⟨v, br_c (fun z3 => h1 ⟨z, z2, z3⟩) (fun z3 => h0 fun y => z3 y.2.2)⟩)⟩)⟩
theorem tn_y_use {post : Int32 → Prop} {c : Nat} {a : Int32} (hc : c < 36) (h1 : tn_OP th up cl a c → post 1) (h0 : ¬ tn_OP th up cl a c → post 0) : wpY_isOpen post (le, bl, bc, th, tn_I co, tn_I ca, cl, up, wa, tn_I en, tn_I bw, tn_I pr, av, tn_I ln, tn_I nd, pa, be) (nI c) a := by
  have v := tn_v36 hc
  unfold wpY_isOpen
  dsimp only
  rw [nI_clamp (show c < 2 ^ 31 by omega)]
  refine ⟨v, br_c (fun z => h0 fun y => y.1 z) (fun z => ⟨v, br_c (fun z2 => h0 fun y => y.2.1 z2) (fun z2 => ⟨v, br_c (fun z3 => h1 ⟨z, z2, z3⟩) (fun z3 => h0 fun y => z3 y.2.2)⟩)⟩)⟩
theorem tn_x_load {post : Int32 → Prop} {c : Nat} (hc : c < 36) (hT : tn_TL tl ln nd) (h : post (nI (tn_ld bw ln nd c))) : wpX_loadOf post (fl, th, up, tn_I co, tn_I ca, cl, st, tn_I en, tn_I bw, tn_I pr, av, tl, tn_I nd, tn_I ln, op, rk, fn) (nI c) := by
  have key : ∀ d i, i + d = 8 → wX_loadOf_4 post (nI c) fl th up (tn_I co) (tn_I ca) cl st (tn_I en) (tn_I bw) (tn_I pr) av tl (tn_I nd) (tn_I ln) op rk fn (d + 1) (nI (tn_sm (fun t => tn_q (tn_ov ln nd t c) (bw t)) i)) (nI i) := by
    intro d
    induction d with
    | zero =>
      intro i hi
      have : i = 8 := by omega
      subst this
      exact br_t (by decide) h
    | succ d ih =>
      intro i hi
      refine br_f (tn_i8 (by omega)) (tn_x_isOver (by omega) hc hT (fun z => br_f (by decide) ⟨tn_v8 (by omega), nm_r ?_ (nm_r (nI_1 i) (ih (i + 1) (by omega)))⟩) (fun z => br_t rfl (nm_r (nI_1 i) ?_)))
      · rw [tn_cl (tn_I bw) (by omega), nI_add]
        simp only [tn_sm, tn_q_t z]
      · have q := ih (i + 1) (by omega)
        simp only [tn_sm, tn_q_f z, Nat.add_zero] at q
        exact q
  exact ⟨9, key 8 0 (by omega)⟩
theorem tn_subsub (a b c : Nat) : nI a - nI b - nI c = nI a - nI (b + c) := by
  rw [← nI_add]
  generalize nI a = x; generalize nI b = y; generalize nI c = z
  grind
theorem tn_x_room {post : Int32 → Prop} {c p : Nat} {q : Int32} (hc : c < 36) (hp : p < 2 ^ 20) (hpr : ∀ t, pr t ≤ 3) (hT : tn_TL tl ln nd) (h : post (nI (ca c) - nI (tn_tk bw pr ln nd q p c))) : wpX_roomWithout post (fl, th, up, tn_I co, tn_I ca, cl, st, tn_I en, tn_I bw, tn_I pr, av, tl, tn_I nd, tn_I ln, op, rk, fn) (nI c) (nI p) q := by
  have key : ∀ d i, i + d = 8 → wX_roomWithout_11 post (nI c) (nI p) q fl th up (tn_I co) (tn_I ca) cl st (tn_I en) (tn_I bw) (tn_I pr) av tl (tn_I nd) (tn_I ln) op rk fn (d + 1) (nI (ca c) - nI (tn_sm (fun t => tn_q (nI t ≠ q ∧ pr t ≤ p ∧ tn_ov ln nd t c) (bw t)) i)) (nI i) := by
    intro d
    induction d with
    | zero =>
      intro i hi
      have : i = 8 := by omega
      subst this
      exact br_t (by decide) h
    | succ d ih =>
      intro i hi
      have ihi := ih (i + 1) (by omega)
      have no : ¬ (nI i ≠ q ∧ pr i ≤ p ∧ tn_ov ln nd i c) → wX_roomWithout_11 post (nI c) (nI p) q fl th up (tn_I co) (tn_I ca) cl st (tn_I en) (tn_I bw) (tn_I pr) av tl (tn_I nd) (tn_I ln) op rk fn (d + 1) (nI (ca c) - nI (tn_sm (fun t => tn_q (nI t ≠ q ∧ pr t ≤ p ∧ tn_ov ln nd t c) (bw t)) i)) (nI (i + 1)) := by
        intro z
        simp only [tn_sm, tn_q_f z, Nat.add_zero] at ihi
        exact ihi
      refine br_f (tn_i8 (by omega)) ⟨tn_v8 (by omega), ?_⟩
      rw [tn_clL tl (by omega)]
      refine ⟨fun z => ?_, fun z => ?_⟩
      · have zo : tn_ov ln nd i c := (hT i c (by omega) hc).1 z
        refine br_f (by decide) (br_c (fun e => nm_r (nI_1 i) (no fun y => y.1 e)) fun e => ⟨tn_v8 (by omega), ?_⟩)
        rw [tn_cl (tn_I pr) (by omega), tn_cl (tn_I bw) (by omega)]
        have := hpr i
        refine pk_lt p (pr i) (fun l => nm_r (nI_1 i) (no fun y => by have := y.2.1; omega)) (fun l => ⟨tn_v8 (by omega), nm_r (tn_subsub _ _ _) (nm_r (nI_1 i) ?_)⟩)
        simp only [tn_sm, tn_q_t (show nI i ≠ q ∧ pr i ≤ p ∧ tn_ov ln nd i c from ⟨e, l, zo⟩)] at ihi
        exact ihi
      · exact br_t rfl (nm_r (nI_1 i) (no fun y => z ((hT i c (by omega) hc).2 y.2.2)))
  refine ⟨tn_v36 hc, nm_r (tn_cl (tn_I ca) (by omega)) ⟨9, ?_⟩⟩
  have k := key 8 0 (by omega)
  have e : nI (ca c) - nI (tn_sm (fun t => tn_q (nI t ≠ q ∧ pr t ≤ p ∧ tn_ov ln nd t c) (bw t)) 0) = nI (ca c) := by
    show nI (ca c) - 0 = _
    exact Int32.sub_zero _
  rw [e] at k
  exact k
theorem tn_y_taken {post : Int32 → Prop} {c p : Nat} {q : Int32} (hc : c < 36) (hp : p < 2 ^ 20) (hpr : ∀ t, pr t ≤ 3) (hl : ∀ t, ln t ≤ 6) (hn : ∀ i, nd i < 6) (h : post (nI (tn_tk bw pr ln nd q p c))) : wpY_taken post (le, bl, bc, th, tn_I co, tn_I ca, cl, up, wa, tn_I en, tn_I bw, tn_I pr, av, tn_I ln, tn_I nd, pa, be) (nI c) (nI p) q := by
  have key : ∀ d i, i + d = 8 → wY_taken_6 post (nI c) (nI p) q le bl bc th (tn_I co) (tn_I ca) cl up wa (tn_I en) (tn_I bw) (tn_I pr) av (tn_I ln) (tn_I nd) pa be (d + 1) (nI (tn_sm (fun t => tn_q (nI t ≠ q ∧ pr t ≤ p ∧ tn_ov ln nd t c) (bw t)) i)) (nI i) := by
    intro d
    induction d with
    | zero =>
      intro i hi
      have : i = 8 := by omega
      subst this
      exact br_t (by decide) h
    | succ d ih =>
      intro i hi
      have ihi := ih (i + 1) (by omega)
      have no : ¬ (nI i ≠ q ∧ pr i ≤ p ∧ tn_ov ln nd i c) → wY_taken_6 post (nI c) (nI p) q le bl bc th (tn_I co) (tn_I ca) cl up wa (tn_I en) (tn_I bw) (tn_I pr) av (tn_I ln) (tn_I nd) pa be (d + 1) (nI (tn_sm (fun t => tn_q (nI t ≠ q ∧ pr t ≤ p ∧ tn_ov ln nd t c) (bw t)) i)) (nI (i + 1)) := by
        intro z
        simp only [tn_sm, tn_q_f z, Nat.add_zero] at ihi
        exact ihi
      refine br_f (tn_i8 (by omega)) (br_c (fun e => nm_r (nI_1 i) (no fun y => y.1 e)) fun e => ⟨tn_v8 (by omega), ?_⟩)
      rw [tn_cl (tn_I pr) (by omega)]
      have := hpr i
      refine pk_lt p (pr i) (fun l => nm_r (nI_1 i) (no fun y => by have := y.2.1; omega)) (fun l => ?_)
      refine tn_y_isOver (by omega) hc hl hn (fun zo => br_f (by decide) ⟨tn_v8 (by omega), ?_⟩) (fun zo => br_t rfl (nm_r (nI_1 i) (no fun y => zo y.2.2)))
      rw [tn_cl (tn_I bw) (by omega)]
      refine nm_r (nI_add _ _) (nm_r (nI_1 i) ?_)
      simp only [tn_sm, tn_q_t (show nI i ≠ q ∧ pr i ≤ p ∧ tn_ov ln nd i c from ⟨e, l, zo⟩)] at ihi
      exact ihi
  exact ⟨9, key 8 0 (by omega)⟩
theorem tn_y_room {post : Int32 → Prop} {c p : Nat} {q : Int32} (hc : c < 36) (hp : p < 2 ^ 20) (hpr : ∀ t, pr t ≤ 3) (hl : ∀ t, ln t ≤ 6) (hn : ∀ i, nd i < 6) (h : post (nI (ca c) - nI (tn_tk bw pr ln nd q p c))) : wpY_roomOf post (le, bl, bc, th, tn_I co, tn_I ca, cl, up, wa, tn_I en, tn_I bw, tn_I pr, av, tn_I ln, tn_I nd, pa, be) (nI c) (nI p) q := by
  refine ⟨tn_v36 hc, tn_y_taken hc hp hpr hl hn ?_⟩
  rw [tn_cl (tn_I ca) (by omega)]
  exact h
end
