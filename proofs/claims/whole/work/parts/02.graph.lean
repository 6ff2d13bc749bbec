/-! sums, walks of the links, ranks: no printed predicate here -/
def tn_sm (f : Nat → Nat) : Nat → Nat
  | 0 => 0
  | n + 1 => tn_sm f n + f n
theorem tn_sm_le {f g : Nat → Nat} : ∀ {n : Nat}, (∀ i, i < n → f i ≤ g i) → tn_sm f n ≤ tn_sm g n
  | 0, _ => Nat.le_refl _
  | n + 1, h => by
    have a := tn_sm_le (n := n) (fun i hi => h i (by omega))
    have b := h n (by omega)
    simp only [tn_sm]; omega
theorem tn_sm_eq {f g : Nat → Nat} {n : Nat} (h : ∀ i, i < n → f i = g i) : tn_sm f n = tn_sm g n :=
  Nat.le_antisymm (tn_sm_le fun i hi => Nat.le_of_eq (h i hi)) (tn_sm_le fun i hi => Nat.le_of_eq (h i hi).symm)
theorem tn_sm_add {f g : Nat → Nat} {a d : Nat} : ∀ {n : Nat}, (∀ i, i < n → f i ≤ g i) → a < n → f a + d ≤ g a → tn_sm f n + d ≤ tn_sm g n
  | 0, _, h, _ => by omega
  | n + 1, h, ha, hd => by
    simp only [tn_sm]
    rcases Nat.lt_or_ge a n with z | z
    · have x := tn_sm_add (n := n) (fun i hi => h i (by omega)) z hd
      have b := h n (by omega)
      omega
    · have e : a = n := by omega
      subst e
      have x := tn_sm_le (n := a) (fun i hi => h i (by omega))
      omega
theorem tn_sm_adde {f g : Nat → Nat} {a d : Nat} : ∀ {n : Nat}, (∀ i, i < n → i ≠ a → f i = g i) → a < n → f a + d = g a → tn_sm f n + d = tn_sm g n
  | 0, _, h, _ => by omega
  | n + 1, h, ha, hd => by
    simp only [tn_sm]
    rcases Nat.lt_or_ge a n with z | z
    · have x := tn_sm_adde (n := n) (fun i hi => h i (by omega)) z hd
      have b := h n (by omega) (by omega)
      omega
    · have e : a = n := by omega
      subst e
      have x := tn_sm_eq (f := f) (g := g) (n := a) (fun i hi => h i (by omega) (by omega))
      omega
theorem tn_sm_bd {f : Nat → Nat} {b : Nat} : ∀ {n : Nat}, (∀ i, i < n → f i ≤ b) → tn_sm f n ≤ n * b
  | 0, _ => by simp [tn_sm]
  | n + 1, h => by
    have x := tn_sm_bd (n := n) (fun i hi => h i (by omega))
    have y := h n (by omega)
    simp only [tn_sm, Nat.add_mul]; omega
theorem tn_sm_pos {f : Nat → Nat} : ∀ {n : Nat}, 0 < tn_sm f n → ∃ i, i < n ∧ 0 < f i
  | 0, h => by simp [tn_sm] at h
  | n + 1, h => by
    rcases Nat.eq_zero_or_pos (f n) with z | z
    · simp only [tn_sm, z, Nat.add_zero] at h
      obtain ⟨i, hi, hp⟩ := tn_sm_pos h
      exact ⟨i, by omega, hp⟩
    · exact ⟨n, by omega, z⟩
def tn_cd (a b : Nat) : Nat := if a < b then 6 * a + b else 6 * b + a
theorem tn_cd_comm (a b : Nat) : tn_cd a b = tn_cd b a := by
  unfold tn_cd
  split <;> split <;> omega
theorem tn_cd_lt {a b : Nat} (ha : a < 6) (hb : b < 6) : tn_cd a b < 36 := by
  unfold tn_cd
  split <;> omega
theorem tn_cd_dm {a b : Nat} (hb : b < 6) (h : a < b) : tn_cd a b / 6 = a ∧ tn_cd a b % 6 = b := by
  unfold tn_cd
  rw [if_pos h]
  omega
theorem tn_cd_of {c : Nat} (h : c / 6 < c % 6) : tn_cd (c / 6) (c % 6) = c := by
  unfold tn_cd
  rw [if_pos h]
  omega
theorem tn_cd_ne {a b : Nat} (hb : b < 6) (ha : a < 6) (h : tn_cd a b / 6 < tn_cd a b % 6) : a ≠ b := by
  intro e
  subst e
  unfold tn_cd at h
  rw [if_neg (Nat.lt_irrefl a)] at h
  omega
/-- the two ends of a code that a link between a and b has -/
theorem tn_cd_ends {a b : Nat} (ha : a < 6) (hb : b < 6) (h : tn_cd a b / 6 < tn_cd a b % 6) : (tn_cd a b / 6 = a ∧ tn_cd a b % 6 = b) ∨ (tn_cd a b / 6 = b ∧ tn_cd a b % 6 = a) := by
  have n := tn_cd_ne hb ha h
  rcases Nat.lt_or_ge a b with z | z
  · exact Or.inl (tn_cd_dm hb z)
  · rw [tn_cd_comm]
    exact Or.inr (tn_cd_dm ha (by omega))
def tn_Gd (E : Nat → Prop) : Prop := ∀ c, E c → c < 36 ∧ c / 6 < c % 6
def tn_PW (E : Nat → Prop) (w : Nat → Nat) (g : Nat) : Nat → Nat → Nat → Prop
  | 0, v, x => v = g ∧ x = 0
  | r + 1, v, x => tn_PW E w g r v x ∨ ∃ u y, u < 6 ∧ E (tn_cd v u) ∧ tn_PW E w g r u y ∧ x = y + w (tn_cd v u)
def tn_RI (E : Nat → Prop) (w : Nat → Nat) (g F : Nat) (k : Nat → Nat) : Prop :=
  k g = 0 ∧ (∀ v, v < 6 → k v ≤ F) ∧ ∀ v, v < 6 → v ≠ g → k v < F → ∃ u, u < 6 ∧ E (tn_cd v u) ∧ k u + w (tn_cd v u) ≤ k v
def tn_UB (E : Nat → Prop) (w : Nat → Nat) (g r : Nat) (k : Nat → Nat) : Prop := ∀ v x, v < 6 → tn_PW E w g r v x → k v ≤ x
def tn_RD (E : Nat → Prop) (w : Nat → Nat) (g r c : Nat) (k : Nat → Nat) : Prop :=
  ∀ d, d < c → E d → (∀ x, tn_PW E w g r (d % 6) x → k (d / 6) ≤ x + w d) ∧ (∀ x, tn_PW E w g r (d / 6) x → k (d % 6) ≤ x + w d)
def tn_LI (E : Nat → Prop) (w : Nat → Nat) (g F r c : Nat) (k : Nat → Nat) : Prop := tn_RI E w g F k ∧ tn_UB E w g r k ∧ tn_RD E w g r c k
def tn_rx (a b s : Nat) (k : Nat → Nat) : Nat → Nat := fun i => if i = a ∧ k b + s < k a then k b + s else k i
theorem tn_rx_le (a b s : Nat) (k : Nat → Nat) (i : Nat) : tn_rx a b s k i ≤ k i := by
  unfold tn_rx
  split
  · rename_i h
    rw [h.1]
    omega
  · exact Nat.le_refl _
theorem tn_rx_a (a b s : Nat) (k : Nat → Nat) : tn_rx a b s k a ≤ k b + s := by
  unfold tn_rx
  split
  · exact Nat.le_refl _
  · rename_i h
    have : ¬ k b + s < k a := fun z => h ⟨rfl, z⟩
    omega
theorem tn_rx_n {a b s : Nat} {k : Nat → Nat} {i : Nat} (h : i ≠ a) : tn_rx a b s k i = k i := by
  unfold tn_rx
  rw [if_neg (fun z => h z.1)]
theorem tn_rx_RI {E : Nat → Prop} {w : Nat → Nat} {g F : Nat} {k : Nat → Nat} {a b s : Nat} (h : tn_RI E w g F k) (hb : b < 6) (e : E (tn_cd a b)) (hs : w (tn_cd a b) = s) : tn_RI E w g F (tn_rx a b s k) := by
  obtain ⟨h1, h2, h3⟩ := h
  have le := tn_rx_le a b s k
  refine ⟨by have := le g; omega, fun v hv => Nat.le_trans (le v) (h2 v hv), fun v hv hg hF => ?_⟩
  by_cases hc : v = a ∧ k b + s < k a
  · have e1 : tn_rx a b s k v = k b + s := by unfold tn_rx; rw [if_pos hc]
    have := le b
    rw [hc.1] at e1 ⊢
    exact ⟨b, hb, e, by omega⟩
  · have e1 : tn_rx a b s k v = k v := by unfold tn_rx; rw [if_neg hc]
    obtain ⟨u, hu, eu, hk⟩ := h3 v hv hg (by omega)
    exact ⟨u, hu, eu, by have := le u; omega⟩
theorem tn_UB_le {E : Nat → Prop} {w : Nat → Nat} {g r : Nat} {k k' : Nat → Nat} (h : tn_UB E w g r k) (l : ∀ i, k' i ≤ k i) : tn_UB E w g r k' := fun v x hv p => Nat.le_trans (l v) (h v x hv p)
theorem tn_RD_le {E : Nat → Prop} {w : Nat → Nat} {g r c : Nat} {k k' : Nat → Nat} (h : tn_RD E w g r c k) (l : ∀ i, k' i ≤ k i) : tn_RD E w g r c k' := fun d hd e =>
  ⟨fun x p => Nat.le_trans (l _) ((h d hd e).1 x p), fun x p => Nat.le_trans (l _) ((h d hd e).2 x p)⟩
theorem tn_LI_skip {E : Nat → Prop} {w : Nat → Nat} {g F r c : Nat} {k : Nat → Nat} (h : tn_LI E w g F r c k) (e : ¬ E c) : tn_LI E w g F r (c + 1) k := by
  refine ⟨h.1, h.2.1, fun d hd ed => ?_⟩
  rcases Nat.lt_or_ge d c with z | z
  · exact h.2.2 d z ed
  · exact absurd ((show d = c by omega) ▸ ed) e
theorem tn_LI_step {E : Nat → Prop} {w : Nat → Nat} {g F r c : Nat} {k : Nat → Nat} (hE : tn_Gd E) (h : tn_LI E w g F r c k) (e : E c) : tn_LI E w g F r (c + 1) (tn_rx (c % 6) (c / 6) (w c) (tn_rx (c / 6) (c % 6) (w c) k)) := by
  obtain ⟨h1, h2, h3⟩ := h
  have gd := hE c e
  have ec := tn_cd_of gd.2
  have ec' : tn_cd (c % 6) (c / 6) = c := by rw [tn_cd_comm]; exact ec
  have l1 := tn_rx_le (c / 6) (c % 6) (w c) k
  have l2 := tn_rx_le (c % 6) (c / 6) (w c) (tn_rx (c / 6) (c % 6) (w c) k)
  have l : ∀ i, tn_rx (c % 6) (c / 6) (w c) (tn_rx (c / 6) (c % 6) (w c) k) i ≤ k i := fun i => Nat.le_trans (l2 i) (l1 i)
  have a1 := tn_rx_a (c / 6) (c % 6) (w c) k
  have a2 := tn_rx_a (c % 6) (c / 6) (w c) (tn_rx (c / 6) (c % 6) (w c) k)
  refine ⟨tn_rx_RI (tn_rx_RI h1 (by omega) (ec.symm ▸ e) (by rw [ec])) (by omega) (ec'.symm ▸ e) (by rw [ec']), tn_UB_le h2 l, fun d hd ed => ?_⟩
  rcases Nat.lt_or_ge d c with z | z
  · exact tn_RD_le h3 l d z ed
  · have : d = c := by omega
    subst this
    refine ⟨fun x p => ?_, fun x p => ?_⟩
    · have := h2 _ x (by omega) p
      have := l2 (d / 6)
      omega
    · have := h2 _ x (by omega) p
      have := l1 (d / 6)
      omega
theorem tn_LI_next {E : Nat → Prop} {w : Nat → Nat} {g F r : Nat} {k : Nat → Nat} (hE : tn_Gd E) (h : tn_LI E w g F r 36 k) : tn_LI E w g F (r + 1) 0 k := by
  refine ⟨h.1, fun v x hv p => ?_, fun d hd => absurd hd (Nat.not_lt_zero d)⟩
  rcases p with p | ⟨u, y, hu, e, p, rfl⟩
  · exact h.2.1 v x hv p
  · have gd := hE _ e
    have q := h.2.2 _ gd.1 e
    rcases tn_cd_ends hv hu gd.2 with ⟨e1, e2⟩ | ⟨e1, e2⟩
    · rw [e1, e2] at q
      exact q.1 y p
    · rw [e1, e2] at q
      exact q.2 y p
theorem tn_LI_0 {E : Nat → Prop} {w : Nat → Nat} {g F : Nat} {k : Nat → Nat} (hg : k g = 0) (hk : ∀ v, v < 6 → v ≠ g → k v = F) : tn_LI E w g F 0 0 k := by
  refine ⟨⟨hg, fun v hv => ?_, fun v hv n l => ?_⟩, fun v x hv p => ?_, fun d hd => absurd hd (Nat.not_lt_zero d)⟩
  · by_cases z : v = g
    · subst z; omega
    · exact Nat.le_of_eq (hk v hv z)
  · have := hk v hv n
    omega
  · obtain ⟨rfl, rfl⟩ := p
    omega
theorem tn_PW_mono {E : Nat → Prop} {w : Nat → Nat} {g r r' v x : Nat} (h : r ≤ r') (p : tn_PW E w g r v x) : tn_PW E w g r' v x := by
  obtain ⟨d, rfl⟩ : ∃ d, r' = r + d := ⟨r' - r, by omega⟩
  clear h
  induction d with
  | zero => exact p
  | succ d ih => exact Or.inl ih
def tn_ct (k : Nat → Nat) (m : Nat) : Nat := tn_sm (fun y => if k y < m then 1 else 0) 6
theorem tn_ct_lt {k : Nat → Nat} {u v : Nat} (hu : u < 6) (h : k u < k v) : tn_ct k (k u) + 1 ≤ tn_ct k (k v) := by
  refine tn_sm_add (a := u) (fun i hi => ?_) hu ?_
  · split <;> split <;> omega
  · rw [if_neg (Nat.lt_irrefl _), if_pos h]
    exact Nat.le_refl _
theorem tn_ct_le {k : Nat → Nat} {v : Nat} (hv : v < 6) : tn_ct k (k v) ≤ 5 := by
  have h : tn_ct k (k v) + 1 ≤ tn_sm (fun _ => 1) 6 := by
    refine tn_sm_add (a := v) (fun i hi => ?_) hv ?_
    · split <;> omega
    · rw [if_neg (Nat.lt_irrefl _)]
      exact Nat.le_refl _
  have e : tn_sm (fun _ => 1) 6 = 6 := rfl
  omega
theorem tn_chain {E : Nat → Prop} {w : Nat → Nat} {g F : Nat} {k : Nat → Nat} (hw : ∀ c, 1 ≤ w c) (h : tn_RI E w g F k) : ∀ N v, k v < N → v < 6 → k v < F → ∃ x, tn_PW E w g (tn_ct k (k v)) v x ∧ x ≤ k v := by
  intro N
  induction N with
  | zero => intro v h; omega
  | succ N ih =>
    intro v hN hv hF
    by_cases hg : v = g
    · exact ⟨0, tn_PW_mono (Nat.zero_le _) ⟨hg, rfl⟩, Nat.zero_le _⟩
    · obtain ⟨u, hu, e, hk⟩ := h.2.2 v hv hg hF
      have := hw (tn_cd v u)
      obtain ⟨x, p, hx⟩ := ih u (by omega) hu (by omega)
      exact ⟨x + w (tn_cd v u), tn_PW_mono (tn_ct_lt (v := v) hu (by omega)) (Or.inr ⟨u, x, hu, e, p, rfl⟩), by omega⟩
/-- the ranks: what they are in the end -/
def tn_RK (E : Nat → Prop) (w : Nat → Nat) (g F : Nat) (k : Nat → Nat) : Prop :=
  k g = 0 ∧ (∀ v, v < 6 → k v ≤ F) ∧ (∀ a b, a < 6 → b < 6 → E (tn_cd a b) → k a ≤ k b + w (tn_cd a b)) ∧
  ∀ v, v < 6 → v ≠ g → k v < F → ∃ u, u < 6 ∧ E (tn_cd v u) ∧ k u + w (tn_cd v u) = k v
theorem tn_LI_fin {E : Nat → Prop} {w : Nat → Nat} {g F : Nat} {k : Nat → Nat} (hw : ∀ c, 1 ≤ w c) (h : tn_LI E w g F 5 0 k) : tn_RK E w g F k := by
  have fx : ∀ a b, a < 6 → b < 6 → E (tn_cd a b) → k a ≤ k b + w (tn_cd a b) := by
    intro a b ha hb e
    rcases Nat.lt_or_ge (k b) (k a) with z | z
    · have hF := h.1.2.1 a ha
      obtain ⟨x, p, hx⟩ := tn_chain hw h.1 _ b (Nat.lt_succ_self _) hb (by omega)
      have c1 := tn_ct_lt (v := a) hb z
      have c2 := tn_ct_le (k := k) ha
      have q : tn_PW E w g 5 a (x + w (tn_cd a b)) := Or.inr ⟨b, x, hb, e, tn_PW_mono (show _ ≤ 4 by omega) p, rfl⟩
      have := h.2.1 a _ ha q
      omega
    · omega
  refine ⟨h.1.1, h.1.2.1, fx, fun v hv hg hF => ?_⟩
  obtain ⟨u, hu, e, hk⟩ := h.1.2.2 v hv hg hF
  exact ⟨u, hu, e, Nat.le_antisymm hk (fx v u hv hu e)⟩
