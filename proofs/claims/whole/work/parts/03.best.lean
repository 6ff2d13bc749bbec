/-! the walk along the ranks, paths by number, the best path -/
def tn_hv (f : Nat → Nat) : Nat → Nat
  | 0 => 0
  | k + 1 => 6 * tn_hv f k + f (k + 1)
theorem tn_hv_lt {f : Nat → Nat} : ∀ b, (∀ i, i < b → f (i + 1) < 6) → tn_hv f b < 6 ^ b
  | 0, _ => by simp [tn_hv]
  | b + 1, h => by
    have a := tn_hv_lt b (fun i hi => h i (by omega))
    have c := h b (by omega)
    simp only [tn_hv, Nat.pow_succ]
    omega
theorem tn_hv_div {f : Nat → Nat} (i : Nat) : ∀ d, (∀ j, j < i + d → f (j + 1) < 6) → tn_hv f (i + d) / 6 ^ d = tn_hv f i
  | 0, _ => by simp
  | d + 1, h => by
    have a := tn_hv_div i d (fun j hj => h j (by omega))
    have c := h (i + d) (by omega)
    have e : tn_hv f (i + (d + 1)) = 6 * tn_hv f (i + d) + f (i + d + 1) := rfl
    rw [e, Nat.pow_succ, Nat.mul_comm (6 ^ d) 6, ← Nat.div_div_eq_div_mul, show (6 * tn_hv f (i + d) + f (i + d + 1)) / 6 = tn_hv f (i + d) by omega]
    exact a
def tn_pt (e b n : Nat) : Nat → Nat := fun i => if i = 0 then e / 6 else if i = b + 1 then e % 6 else n / 6 ^ (b - i) % 6
theorem tn_pt_0 (e b n : Nat) : tn_pt e b n 0 = e / 6 := rfl
theorem tn_pt_e (e b n : Nat) : tn_pt e b n (b + 1) = e % 6 := by
  unfold tn_pt
  rw [if_neg (by omega), if_pos rfl]
theorem tn_pt_m {e b n i : Nat} (h0 : i ≠ 0) (h : i ≤ b) : tn_pt e b n i = n / 6 ^ (b - i) % 6 := by
  unfold tn_pt
  rw [if_neg h0, if_neg (by omega)]
theorem tn_pt_lt {e b n i : Nat} (he : e < 36) : tn_pt e b n i < 6 := by
  unfold tn_pt
  split
  · omega
  · split
    · omega
    · exact Nat.mod_lt _ (by omega)
/-- every path of b nodes between has a number -/
theorem tn_pt_of {f : Nat → Nat} {e b : Nat} (h0 : f 0 = e / 6) (h1 : f (b + 1) = e % 6) (hf : ∀ i, i < b → f (i + 1) < 6) : tn_hv f b < 6 ^ b ∧ ∀ i, i ≤ b + 1 → f i = tn_pt e b (tn_hv f b) i := by
  refine ⟨tn_hv_lt b hf, fun i hi => ?_⟩
  by_cases z : i = 0
  · subst z; exact h0
  · by_cases y : i = b + 1
    · subst y; rw [tn_pt_e]; exact h1
    · rw [tn_pt_m z (by omega)]
      have q := tn_hv_div (f := f) i (b - i) (fun j hj => hf j (by omega))
      rw [show i + (b - i) = b by omega] at q
      rw [q]
      obtain ⟨j, rfl⟩ : ∃ j, i = j + 1 := ⟨i - 1, by omega⟩
      have := hf j (by omega)
      simp only [tn_hv]
      omega
theorem tn_pt_hv {e b n : Nat} (hn : n < 6 ^ b) : ∀ i, i ≤ b → tn_hv (tn_pt e b n) i = n / 6 ^ (b - i)
  | 0, _ => by simp [tn_hv, Nat.div_eq_of_lt hn]
  | i + 1, h => by
    have a := tn_pt_hv (e := e) hn i (by omega)
    simp only [tn_hv]
    rw [a, tn_pt_m (by omega) h, show b - i = (b - (i + 1)) + 1 by omega, Nat.pow_succ, ← Nat.div_div_eq_div_mul]
    omega
/-- the number of the lesser path is the lesser one -/
theorem tn_hv_cmp {f q : Nat → Nat} {b : Nat} (h0 : f 0 = q 0) (hf : ∀ i, i < b → f (i + 1) < 6) (h : ∀ i, i < b → f i = q i → f (i + 1) ≤ q (i + 1)) : ∀ i, i ≤ b → tn_hv f i < tn_hv q i ∨ (tn_hv f i = tn_hv q i ∧ f i = q i)
  | 0, _ => Or.inr ⟨rfl, h0⟩
  | i + 1, hi => by
    have c := hf i (by omega)
    simp only [tn_hv]
    rcases tn_hv_cmp h0 hf h i (by omega) with a | ⟨a, a'⟩
    · exact Or.inl (by omega)
    · have := h i (by omega) a'
      rcases Nat.lt_or_ge (f (i + 1)) (q (i + 1)) with z | z
      · exact Or.inl (by omega)
      · exact Or.inr ⟨by omega, by omega⟩
def tn_VA (E : Nat → Prop) (e b n : Nat) : Prop := (∀ i j, i < b + 2 → j < i → tn_pt e b n i ≠ tn_pt e b n j) ∧ ∀ i, i < b + 1 → E (tn_cd (tn_pt e b n i) (tn_pt e b n (i + 1)))
def tn_CO (co : Nat → Nat) (p : Nat → Nat) (m : Nat) : Nat := tn_sm (fun i => co (tn_cd (p i) (p (i + 1)))) m
def tn_BE (E : Nat → Prop) (co : Nat → Nat) (e b n : Nat) : Prop :=
  b < 5 ∧ n < 6 ^ b ∧ tn_VA E e b n ∧ ∀ b' n', b' < 5 → n' < 6 ^ b' → tn_VA E e b' n' →
    tn_CO co (tn_pt e b n) (b + 1) < tn_CO co (tn_pt e b' n') (b' + 1) ∨ (tn_CO co (tn_pt e b n) (b + 1) = tn_CO co (tn_pt e b' n') (b' + 1) ∧ (b < b' ∨ (b = b' ∧ n ≤ n')))
theorem tn_BE_uniq {E : Nat → Prop} {co : Nat → Nat} {e b n b' n' : Nat} (h : tn_BE E co e b n) (h' : tn_BE E co e b' n') : b = b' ∧ n = n' := by
  have a := h.2.2.2 b' n' h'.1 h'.2.1 h'.2.2.1
  have c := h'.2.2.2 b n h.1 h.2.1 h.2.2.1
  omega
def tn_w (co : Nat → Nat) (c : Nat) : Nat := 8 * co c + 1
theorem tn_CO_w {co : Nat → Nat} {p : Nat → Nat} : ∀ m, tn_sm (fun i => tn_w co (tn_cd (p i) (p (i + 1)))) m = 8 * tn_CO co p m + m
  | 0 => rfl
  | m + 1 => by
    have a := tn_CO_w (co := co) (p := p) m
    simp only [tn_CO, tn_sm, tn_w] at a ⊢
    omega
theorem tn_CO_eq {co : Nat → Nat} {p q : Nat → Nat} {m : Nat} (h : ∀ i, i ≤ m → p i = q i) : tn_CO co p m = tn_CO co q m :=
  tn_sm_eq fun i hi => by rw [h i (by omega), h (i + 1) (by omega)]
/-- X's walk: each node the least one that lies on a best path -/
def tn_TR (E : Nat → Prop) (w : Nat → Nat) (k : Nat → Nat) (s : Nat) (f : Nat → Nat) (m : Nat) : Prop :=
  f 0 = s ∧ (∀ i, i ≤ m → f i < 6) ∧ ∀ i, i < m → E (tn_cd (f i) (f (i + 1))) ∧ k (f (i + 1)) + w (tn_cd (f i) (f (i + 1))) = k (f i) ∧
    ∀ u, u < 6 → E (tn_cd (f i) u) → k u + w (tn_cd (f i) u) = k (f i) → f (i + 1) ≤ u
theorem tn_TR_k {E : Nat → Prop} {w k : Nat → Nat} {s m : Nat} {f : Nat → Nat} (h : tn_TR E w k s f m) : ∀ i, i ≤ m → k s = tn_sm (fun j => w (tn_cd (f j) (f (j + 1)))) i + k (f i)
  | 0, _ => by simp [tn_sm, h.1]
  | i + 1, hi => by
    have a := tn_TR_k h i (by omega)
    have c := (h.2.2 i (by omega)).2.1
    simp only [tn_sm]
    omega
theorem tn_TR_ct {E : Nat → Prop} {w k : Nat → Nat} {s m : Nat} {f : Nat → Nat} (hw : ∀ c, 1 ≤ w c) (h : tn_TR E w k s f m) : ∀ i, i ≤ m → tn_ct k (k (f i)) + i ≤ 5
  | 0, _ => tn_ct_le (h.2.1 0 (Nat.zero_le _))
  | i + 1, hi => by
    have a := tn_TR_ct hw h i (by omega)
    have c := (h.2.2 i (by omega)).2.1
    have := hw (tn_cd (f i) (f (i + 1)))
    have := tn_ct_lt (k := k) (v := f i) (h.2.1 (i + 1) hi) (by omega)
    omega
theorem tn_TR_dec {E : Nat → Prop} {w k : Nat → Nat} {s m : Nat} {f : Nat → Nat} (hw : ∀ c, 1 ≤ w c) (h : tn_TR E w k s f m) (j : Nat) : ∀ d, j + d + 1 ≤ m → k (f (j + d + 1)) < k (f j)
  | 0, hd => by
    have c := (h.2.2 j (by omega)).2.1
    have := hw (tn_cd (f j) (f (j + 1)))
    show k (f (j + 1)) < _
    omega
  | d + 1, hd => by
    have a := tn_TR_dec hw h j d (by omega)
    have c := (h.2.2 (j + d + 1) (by omega)).2.1
    have := hw (tn_cd (f (j + d + 1)) (f (j + d + 1 + 1)))
    show k (f (j + d + 1 + 1)) < _
    omega
theorem tn_w_1 {co : Nat → Nat} (c : Nat) : 1 ≤ tn_w co c := by unfold tn_w; omega
/-- a path's weight is no less than the rank -/
theorem tn_Q_le {E : Nat → Prop} {w k : Nat → Nat} {g F : Nat} {q : Nat → Nat} {m : Nat} (K : tn_RK E w g F k) (hq : ∀ i, q i < 6) (he : ∀ i, i < m → E (tn_cd (q i) (q (i + 1)))) : ∀ i, i ≤ m → k (q 0) ≤ tn_sm (fun j => w (tn_cd (q j) (q (j + 1)))) i + k (q i)
  | 0, _ => by simp [tn_sm]
  | i + 1, hi => by
    have a := tn_Q_le K hq he i (by omega)
    have c := K.2.2.1 _ _ (hq i) (hq (i + 1)) (he i (by omega))
    simp only [tn_sm]
    omega
theorem tn_Q_suf {E : Nat → Prop} {w k : Nat → Nat} {g F : Nat} {q : Nat → Nat} {m : Nat} (K : tn_RK E w g F k) (hq : ∀ i, q i < 6) (he : ∀ i, i < m → E (tn_cd (q i) (q (i + 1)))) (hg : q m = g) : ∀ d i, i + d = m → k (q i) + tn_sm (fun j => w (tn_cd (q j) (q (j + 1)))) i ≤ tn_sm (fun j => w (tn_cd (q j) (q (j + 1)))) m
  | 0, i, h => by
    have : i = m := by omega
    subst this
    rw [hg, K.1]
    omega
  | d + 1, i, h => by
    have a := tn_Q_suf K hq he hg d (i + 1) (by omega)
    have c := K.2.2.1 _ _ (hq i) (hq (i + 1)) (he i (by omega))
    simp only [tn_sm] at a
    omega
/-- what X's walk finds is the best path -/
theorem tn_TR_best {E : Nat → Prop} {co k : Nat → Nat} {F e m : Nat} {f : Nat → Nat} (K : tn_RK E (tn_w co) (e % 6) F k) (h36 : e < 36) (hne : e / 6 ≠ e % 6) (h : tn_TR E (tn_w co) k (e / 6) f m) (hg : f m = e % 6) :
    ∃ b n, m = b + 1 ∧ tn_BE E co e b n ∧ (∀ i, i ≤ m → f i = tn_pt e b n i) ∧ k (e / 6) = 8 * tn_CO co (tn_pt e b n) (b + 1) + (b + 1) := by
  have hm : m ≠ 0 := by
    intro z
    subst z
    exact hne (h.1.symm.trans hg)
  obtain ⟨b, rfl⟩ : ∃ b, m = b + 1 := ⟨m - 1, by omega⟩
  obtain ⟨hn, hp⟩ := tn_pt_of (f := f) (e := e) (b := b) h.1 hg (fun i hi => h.2.1 (i + 1) (by omega))
  have hb5 := tn_TR_ct tn_w_1 h (b + 1) (Nat.le_refl _)
  have kw : k (e / 6) = 8 * tn_CO co f (b + 1) + (b + 1) := by
    have a := tn_TR_k h (b + 1) (Nat.le_refl _)
    rw [hg, K.1, tn_CO_w] at a
    omega
  have cf : tn_CO co f (b + 1) = tn_CO co (tn_pt e b (tn_hv f b)) (b + 1) := tn_CO_eq (fun i hi => hp i hi)
  refine ⟨b, tn_hv f b, rfl, ⟨by omega, hn, ⟨fun i j hi hj => ?_, fun i hi => ?_⟩, fun b' n' hb' hn' hv => ?_⟩, hp, by rw [← cf]; exact kw⟩
  · rw [← hp i (by omega), ← hp j (by omega)]
    obtain ⟨d, rfl⟩ : ∃ d, i = j + d + 1 := ⟨i - j - 1, by omega⟩
    have := tn_TR_dec tn_w_1 h j d (by omega)
    intro z
    rw [z] at this
    omega
  · rw [← hp i (by omega), ← hp (i + 1) (by omega)]
    exact (h.2.2 i (by omega)).1
  · rw [← cf]
    have q6 : ∀ i, tn_pt e b' n' i < 6 := fun i => tn_pt_lt h36
    have a := tn_Q_le K q6 hv.2 (b' + 1) (Nat.le_refl _)
    rw [tn_pt_e, K.1, tn_CO_w, tn_pt_0] at a
    rcases Nat.lt_or_ge (tn_CO co f (b + 1)) (tn_CO co (tn_pt e b' n') (b' + 1)) with z | z
    · exact Or.inl z
    · refine Or.inr ⟨by omega, ?_⟩
      rcases Nat.lt_or_ge b b' with y | y
      · exact Or.inl y
      · have eb : b' = b := by omega
        subst eb
        refine Or.inr ⟨rfl, ?_⟩
        have tight : ∀ i, i < b' + 1 → k (tn_pt e b' n' (i + 1)) + tn_w co (tn_cd (tn_pt e b' n' i) (tn_pt e b' n' (i + 1))) = k (tn_pt e b' n' i) := by
          intro i hi
          have s1 := tn_Q_suf K q6 hv.2 (tn_pt_e e b' n') (b' + 1 - (i + 1)) (i + 1) (by omega)
          have s2 := tn_Q_le K q6 hv.2 i (by omega)
          have s3 := K.2.2.1 _ _ (q6 i) (q6 (i + 1)) (hv.2 i hi)
          have ei : tn_sm (fun j => tn_w co (tn_cd (tn_pt e b' n' j) (tn_pt e b' n' (j + 1)))) (i + 1) = tn_sm (fun j => tn_w co (tn_cd (tn_pt e b' n' j) (tn_pt e b' n' (j + 1)))) i + tn_w co (tn_cd (tn_pt e b' n' i) (tn_pt e b' n' (i + 1))) := rfl
          have ew := tn_CO_w (co := co) (p := tn_pt e b' n') (b' + 1)
          rw [ei, ew] at s1
          rw [tn_pt_0] at s2
          omega
        have c := tn_hv_cmp (f := f) (q := tn_pt e b' n') (b := b') (h.1.trans (tn_pt_0 e b' n').symm) (fun i hi => h.2.1 (i + 1) (by omega)) (fun i hi hfq => by
          have hv1 := hv.2 i (by omega)
          have tg := tight i (by omega)
          rw [← hfq] at hv1 tg
          exact (h.2.2 i (by omega)).2.2 _ (q6 _) hv1 tg) b' (Nat.le_refl _)
        rw [tn_pt_hv hn' b' (Nat.le_refl _), Nat.sub_self, Nat.pow_zero, Nat.div_one] at c
        omega
/-- there is a path where there is a fit one by number -/
theorem tn_VA_rk {E : Nat → Prop} {co k : Nat → Nat} {e b n : Nat} (K : tn_RK E (tn_w co) (e % 6) 1000000 k) (h36 : e < 36) (hc : ∀ c, E c → co c ≤ 20) (hb : b < 5) (hv : tn_VA E e b n) : k (e / 6) < 1000000 := by
  have a := tn_Q_le K (fun i => tn_pt_lt h36) hv.2 (b + 1) (Nat.le_refl _)
  rw [tn_pt_e, K.1, tn_CO_w, tn_pt_0] at a
  have c : tn_CO co (tn_pt e b n) (b + 1) ≤ (b + 1) * 20 := tn_sm_bd fun i hi => hc _ (hv.2 i hi)
  omega
