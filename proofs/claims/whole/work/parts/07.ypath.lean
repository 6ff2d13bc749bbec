/-! Y's paths by number: made, measured -/
theorem tn_p6 {b : Nat} (h : b < 5) : 6 ^ b ≤ 1296 := Nat.le_trans (Nat.pow_le_pow_right (by decide) (show b ≤ 4 by omega)) (by decide)
def tn_DI (e b n : Nat) : Prop := ∀ i j, i < b + 2 → j < i → tn_pt e b n i ≠ tn_pt e b n j
section
variable {fl le bl bc : Int32} {th up cl av st wa op rk fn pa be : Nat → Int32} {co ca en bw pr ln nd : Nat → Nat} {tl : Nat → Int64}
theorem tn_y_mk {post : Int32 → SY → Prop} {e b n : Nat} (he : e < 36) (hb : b < 5) (hn : n < 6 ^ b)
    (h : ∀ pa' : Nat → Int32, (∀ j, j < b + 2 → pa' j = nI (tn_pt e b n j)) → ((tn_DI e b n → post 1 (nI (b + 2), bl, bc, th, tn_I co, tn_I ca, cl, up, wa, tn_I en, tn_I bw, tn_I pr, av, tn_I ln, tn_I nd, pa', be)) ∧ (¬ tn_DI e b n → post 0 (nI (b + 2), bl, bc, th, tn_I co, tn_I ca, cl, up, wa, tn_I en, tn_I bw, tn_I pr, av, tn_I ln, tn_I nd, pa', be)))) : wpY_makePath post (le, bl, bc, th, tn_I co, tn_I ca, cl, up, wa, tn_I en, tn_I bw, tn_I pr, av, tn_I ln, tn_I nd, pa, be) (nI e) (nI b) (nI n) := by
  have h6 := tn_p6 hb
  have chk : ∀ pa : Nat → Int32, (∀ j, j < b + 2 → pa j = nI (tn_pt e b n j)) → ∀ d i, i + d = b + 2 → (∀ i' j, i' < i → j < i' → tn_pt e b n i' ≠ tn_pt e b n j) → wY_makePath_68 post (nI (b + 2)) bl bc th (tn_I co) (tn_I ca) cl up wa (tn_I en) (tn_I bw) (tn_I pr) av (tn_I ln) (tn_I nd) pa be (d + 1) (nI i) := by
    intro pa ep d
    obtain ⟨p1, p0⟩ := h pa ep
    induction d with
    | zero =>
      intro i hi hd
      have : i = b + 2 := by omega
      subst this
      exact br_t (Int32.le_refl _) (p1 hd)
    | succ d ih =>
      intro i hi hd
      refine br_f (nI_ge (by omega) (by omega)) ⟨i + 1, ?_⟩
      have inner : ∀ d2 j, j + d2 = i → (∀ j', j' < j → tn_pt e b n i ≠ tn_pt e b n j') → wY_makePath_80 post (wY_makePath_68 post (nI (b + 2)) bl bc th (tn_I co) (tn_I ca) cl up wa (tn_I en) (tn_I bw) (tn_I pr) av (tn_I ln) (tn_I nd) pa be (d + 1)) (nI i) (nI (b + 2)) bl bc th (tn_I co) (tn_I ca) cl up wa (tn_I en) (tn_I bw) (tn_I pr) av (tn_I ln) (tn_I nd) pa be (d2 + 1) (nI j) := by
        intro d2
        induction d2 with
        | zero =>
          intro j hj hd2
          have : j = i := by omega
          subst this
          refine br_t (Int32.le_refl _) (nm_r (nI_1 j) (ih (j + 1) (by omega) fun i' j' h1 h2 => ?_))
          by_cases z : i' = j
          · subst z; exact hd2 j' h2
          · exact hd i' j' (by omega) h2
        | succ d2 ih2 =>
          intro j hj hd2
          refine br_f (nI_ge (by omega) (by omega)) ⟨tn_v6 (by omega), tn_v6 (by omega), ?_⟩
          rw [nI_clamp (show i < 2 ^ 31 by omega), nI_clamp (show j < 2 ^ 31 by omega)]
          have l1 := tn_pt_lt (b := b) (n := n) (i := i) he
          have l2 := tn_pt_lt (b := b) (n := n) (i := j) he
          refine pk_eq _ _ (fun z => p0 fun y => y i j (by omega) (by omega) z) (fun z => nm_r (nI_1 j) (ih2 (j + 1) (by omega) fun j' hj' => ?_)) (ep i (by omega)) (ep j (by omega)) (by omega) (by omega)
          by_cases y : j' = j
          · subst y; exact z
          · exact hd2 j' (by omega)
      exact inner i 0 (by omega) (fun j' hj' => absurd hj' (Nat.not_lt_zero j'))
  have fill : ∀ i (pa : Nat → Int32), i ≤ b → (∀ j, j < b + 2 → (j = 0 ∨ i < j) → pa j = nI (tn_pt e b n j)) → wY_makePath_35 post (nI (b + 2)) bl bc (i + 1) (nI (n / 6 ^ (b - i))) (nI i) th (tn_I co) (tn_I ca) cl up wa (tn_I en) (tn_I bw) (tn_I pr) av (tn_I ln) (tn_I nd) pa be := by
    intro i
    induction i with
    | zero =>
      intro pa hi ep
      exact br_t (Int32.le_refl _) ⟨b + 3, chk pa (fun j hj => ep j hj (by omega)) (b + 2) 0 (by omega) (fun i' j h1 => absurd h1 (Nat.not_lt_zero i'))⟩
    | succ i ih =>
      intro pa hi ep
      have hlt : n / 6 ^ (b - (i + 1)) < 2 ^ 31 := Nat.lt_of_le_of_lt (Nat.div_le_self _ _) (by omega)
      refine br_f (nI_nle (by omega) (by omega)) ⟨tn_6, tn_v6 (by omega), ?_⟩
      rw [nI_clamp (show i + 1 < 2 ^ 31 by omega), tn_r6 hlt]
      refine nm_e ⟨tn_6, nm_r (e' := nI (n / 6 ^ (b - i))) ?_ (nm_r (pk_m1 i) (ih _ (by omega) fun j hj hj2 => ?_))⟩
      · rw [tn_d6 hlt, Nat.div_div_eq_div_mul, ← Nat.pow_succ, show (b - (i + 1)).succ = b - i by omega]
      · by_cases z : j = i + 1
        · subst z
          rw [pk_us, tn_pt_m (by omega) hi]
        · rw [pk_un z]
          exact ep j hj (by omega)
  refine nm_r (nI_add b 2) ⟨tn_6, nm_r (congrArg (fun z => upd pa 0 z) (tn_d6 (by omega))) ⟨tn_6, ?_⟩⟩
  rw [nI_1, nI_clamp (show b + 1 < 2 ^ 31 by omega), tn_r6 (show e < 2 ^ 31 by omega)]
  refine ⟨tn_v6 (by omega), nm_e ⟨b + 1, ?_⟩⟩
  have k := fill b (upd (upd pa 0 (nI (e / 6))) (b + 1) (nI (e % 6))) (Nat.le_refl _) fun j hj hj2 => by
    by_cases z : j = b + 1
    · subst z
      rw [pk_us, tn_pt_e]
    · rw [pk_un z]
      have : j = 0 := by omega
      subst this
      rw [pk_us, tn_pt_0]
  rw [Nat.sub_self, Nat.pow_zero, Nat.div_one] at k
  exact k
/-- what a path lets pass: r is below 1, or a number up to 100, and A x says that x fits -/
def tn_WS (A : Nat → Prop) (r : Int32) : Prop := (r < 1 ∧ ∀ x, 1 ≤ x → ¬ A x) ∨ ∃ y, 1 ≤ y ∧ y ≤ 100 ∧ r = nI y ∧ ∀ x, 1 ≤ x → (A x ↔ x ≤ y)
theorem tn_lt1 (r : Int32) : r < 1 ↔ r.toInt < 1 := by
  rw [Int32.lt_iff_toInt_lt, show (1 : Int32).toInt = 1 from by decide]
theorem tn_y_width {post : Int32 → Prop} {m p : Nat} {a q : Int32} {f : Nat → Nat} (hm : 1 ≤ m) (hm5 : m ≤ 5) (hp : p < 2 ^ 20) (hpr : ∀ t, pr t ≤ 3) (hl : ∀ t, ln t ≤ 6) (hn : ∀ i, nd i < 6) (hca : ∀ c, ca c ≤ 100) (hbw : ∀ t, bw t ≤ 100)
    (hf : ∀ i, i < m + 1 → f i < 6) (ef : ∀ i, i < m + 1 → pa i = nI (f i))
    (h : ∀ r, tn_WS (fun x => ∀ i, i < m → tn_EU th up cl a ca bw pr ln nd q p x (tn_cd (f i) (f (i + 1)))) r → post r) : wpY_width post (nI (m + 1), bl, bc, th, tn_I co, tn_I ca, cl, up, wa, tn_I en, tn_I bw, tn_I pr, av, tn_I ln, tn_I nd, pa, be) (nI p) a q := by
  have key : ∀ d i (r : Int32), i + d = m → ((r < 1 ∧ ∀ x, 1 ≤ x → ¬ ∀ j, j < i → tn_EU th up cl a ca bw pr ln nd q p x (tn_cd (f j) (f (j + 1)))) ∨ ∃ y, 1 ≤ y ∧ y ≤ 1000 ∧ r = nI y ∧ ∀ x, 1 ≤ x → x ≤ 1000 → ((∀ j, j < i → tn_EU th up cl a ca bw pr ln nd q p x (tn_cd (f j) (f (j + 1)))) ↔ x ≤ y)) → wY_width_8 post (nI p) a q (nI (m + 1)) bl bc th (tn_I co) (tn_I ca) cl up wa (tn_I en) (tn_I bw) (tn_I pr) av (tn_I ln) (tn_I nd) pa be (d + 1) r (nI i) := by
    intro d
    induction d with
    | zero =>
      intro i r hi I
      have : i = m := by omega
      subst this
      refine br_t ((tn_le1 (by omega) (by omega)).2 (Nat.le_refl _)) (h r ?_)
      rcases I with I | ⟨y, y1, y2, er, I⟩
      · exact Or.inl I
      · have hy := (I y y1 y2).2 (Nat.le_refl _) 0 (by omega)
        have c100 := hca (tn_cd (f 0) (f (0 + 1)))
        have := hy.2.2
        refine Or.inr ⟨y, y1, by omega, er, fun x hx => ⟨fun A => ?_, fun A => (I x hx (by omega)).2 A⟩⟩
        have := (A 0 (by omega)).2.2
        exact (I x hx (by omega)).1 A
    | succ d ih =>
      intro i r hi I
      refine br_f (fun z => by have := (tn_le1 (by omega) (by omega)).1 z; omega) ⟨tn_v6 (by omega), ?_⟩
      rw [nI_1, nI_clamp (show i < 2 ^ 31 by omega), nI_clamp (show i + 1 < 2 ^ 31 by omega), ef i (by omega), ef (i + 1) (by omega)]
      have f1 := hf i (by omega)
      have f2 := hf (i + 1) (by omega)
      have c36 := tn_cd_lt f1 f2
      refine ⟨tn_v6 (by omega), tn_y_code (by omega) (by omega) (tn_y_use c36 (fun o => br_f (by decide) (tn_y_room c36 hp hpr hl hn ?_)) (fun o => br_t rfl (h _ (Or.inl ⟨by decide, fun x hx A => o (A i (by omega)).2.1⟩))))⟩
      have c100 := hca (tn_cd (f i) (f (i + 1)))
      have t800 := tn_tk_le (pr := pr) (ln := ln) (nd := nd) hbw q p (tn_cd (f i) (f (i + 1)))
      have eR := pk_sub_toInt (a := ca (tn_cd (f i) (f (i + 1)))) (b := tn_tk bw pr ln nd q p (tn_cd (f i) (f (i + 1)))) (by omega) (by omega)
      have eE : ∀ x, tn_EU th up cl a ca bw pr ln nd q p x (tn_cd (f i) (f (i + 1))) ↔ (x : Int) ≤ (nI (ca (tn_cd (f i) (f (i + 1)))) - nI (tn_tk bw pr ln nd q p (tn_cd (f i) (f (i + 1))))).toInt := by
        intro x
        rw [eR]
        exact ⟨fun z => by have := z.2.2; omega, fun z => ⟨c36, o, by omega⟩⟩
      have ps : nI (ca (tn_cd (f i) (f (i + 1)))) - nI (tn_tk bw pr ln nd q p (tn_cd (f i) (f (i + 1)))) < 1 ∨ ∃ y, 1 ≤ y ∧ y ≤ 100 ∧ nI (ca (tn_cd (f i) (f (i + 1)))) - nI (tn_tk bw pr ln nd q p (tn_cd (f i) (f (i + 1)))) = nI y := by
        rcases Nat.lt_or_ge (tn_tk bw pr ln nd q p (tn_cd (f i) (f (i + 1)))) (ca (tn_cd (f i) (f (i + 1)))) with z | z
        · exact Or.inr ⟨_, by omega, by omega, pk_sub (by omega)⟩
        · rw [tn_lt1, eR]
          exact Or.inl (by omega)
      generalize nI (ca (tn_cd (f i) (f (i + 1)))) - nI (tn_tk bw pr ln nd q p (tn_cd (f i) (f (i + 1)))) = R at eE ps
      clear eR
      have sp : ∀ x, (∀ j, j < i + 1 → tn_EU th up cl a ca bw pr ln nd q p x (tn_cd (f j) (f (j + 1)))) ↔ ((∀ j, j < i → tn_EU th up cl a ca bw pr ln nd q p x (tn_cd (f j) (f (j + 1)))) ∧ (x : Int) ≤ R.toInt) := by
        intro x
        rw [← eE x]
        exact ⟨fun A => ⟨fun j hj => A j (by omega), A i (by omega)⟩, fun A j hj => (Nat.lt_or_ge j i).elim (fun l => A.1 j l) (fun l => (show j = i by omega) ▸ A.2)⟩
      refine br_c (fun z => nm_e (ih (i + 1) r (by omega) ?_)) (fun z => nm_e (ih (i + 1) R (by omega) ?_))
      · rw [Int32.le_iff_toInt_le] at z
        rcases I with I | ⟨y, y1, y2, er, I⟩
        · exact Or.inl ⟨I.1, fun x hx A => I.2 x hx ((sp x).1 A).1⟩
        · refine Or.inr ⟨y, y1, y2, er, fun x hx hx2 => ?_⟩
          rw [sp x, I x hx hx2]
          rw [er, nI_toInt (by omega)] at z
          exact ⟨fun A => A.1, fun A => ⟨A, by omega⟩⟩
      · rw [Int32.le_iff_toInt_le] at z
        rcases I with I | ⟨y, y1, y2, er, I⟩
        · refine Or.inl ⟨?_, fun x hx A => I.2 x hx ((sp x).1 A).1⟩
          have := (tn_lt1 r).1 I.1
          rw [tn_lt1]
          omega
        · rw [er, nI_toInt (by omega)] at z
          rcases ps with ps | ⟨y', w1, w2, ps⟩
          · refine Or.inl ⟨ps, fun x hx A => ?_⟩
            have := ((sp x).1 A).2
            have := (tn_lt1 R).1 ps
            omega
          · refine Or.inr ⟨y', w1, by omega, ps, fun x hx hx2 => ?_⟩
            rw [sp x, I x hx hx2]
            rw [ps, nI_toInt (by omega)] at z ⊢
            exact ⟨fun A => by have := A.2; omega, fun A => ⟨by omega, by omega⟩⟩
  exact ⟨m + 1, key m 0 1000 (by omega) (Or.inr ⟨1000, by omega, by omega, rfl, fun x hx hx2 => ⟨fun _ => hx2, fun _ j hj => absurd hj (Nat.not_lt_zero j)⟩⟩)⟩
theorem tn_y_pcost {post : Int32 → Prop} {m : Nat} {f : Nat → Nat} (hm5 : m ≤ 5) (hf : ∀ i, i < m + 1 → f i < 6) (ef : ∀ i, i < m + 1 → pa i = nI (f i)) (h : post (nI (tn_CO co f m))) : wpY_pathCost post (nI (m + 1), bl, bc, th, tn_I co, tn_I ca, cl, up, wa, tn_I en, tn_I bw, tn_I pr, av, tn_I ln, tn_I nd, pa, be) := by
  have key : ∀ d i, i + d = m → wY_pathCost_4 post (nI (m + 1)) bl bc th (tn_I co) (tn_I ca) cl up wa (tn_I en) (tn_I bw) (tn_I pr) av (tn_I ln) (tn_I nd) pa be (d + 1) (nI (tn_CO co f i)) (nI i) := by
    intro d
    induction d with
    | zero =>
      intro i hi
      have : i = m := by omega
      subst this
      exact br_t ((tn_le1 (by omega) (by omega)).2 (Nat.le_refl _)) h
    | succ d ih =>
      intro i hi
      refine br_f (fun z => by have := (tn_le1 (by omega) (by omega)).1 z; omega) ⟨tn_v6 (by omega), ?_⟩
      rw [nI_1, nI_clamp (show i < 2 ^ 31 by omega), nI_clamp (show i + 1 < 2 ^ 31 by omega), ef i (by omega), ef (i + 1) (by omega)]
      have f1 := hf i (by omega)
      have f2 := hf (i + 1) (by omega)
      have c36 := tn_cd_lt f1 f2
      refine ⟨tn_v6 (by omega), tn_y_code (by omega) (by omega) ⟨tn_v36 c36, nm_r (e' := nI (tn_CO co f (i + 1))) ?_ (nm_r rfl (ih (i + 1) (by omega)))⟩⟩
      rw [tn_cl (tn_I co) (by omega), nI_add]
      rfl
  exact ⟨m + 1, key m 0 (by omega)⟩
end
