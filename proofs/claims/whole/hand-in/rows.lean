section
theorem pk_us {f : Nat → Int32} {k : Nat} {x : Int32} : upd f k x k = x := if_pos rfl
theorem pk_un {f : Nat → Int32} {k j : Nat} {x : Int32} (h : j ≠ k) : upd f k x j = f j := if_neg h
theorem pk_uLs {f : Nat → Int64} {k : Nat} {x : Int64} : vp_updL f k x k = x := if_pos rfl
theorem pk_uLn {f : Nat → Int64} {k j : Nat} {x : Int64} (h : j ≠ k) : vp_updL f k x j = f j := if_neg h
theorem pk_sub {a b : Nat} (h : b ≤ a) : nI a - nI b = nI (a - b) := by
  obtain ⟨c, rfl⟩ : ∃ c, a = c + b := ⟨a - b, by omega⟩
  rw [← nI_add, Int32.add_sub_cancel, Nat.add_sub_cancel]
theorem pk_m1 (n : Nat) : nI (n + 1) + (-1) = nI n := by
  rw [← nI_1, Int32.add_assoc, show (1 : Int32) + (-1) = 0 from rfl, Int32.add_zero]
theorem pk_mul (a b : Nat) : nI a * nI b = nI (a * b) := (Int32.ofNat_mul a b).symm
theorem pk_div {a d : Nat} (ha : a < 2 ^ 31) (h0 : 0 < d) (hd : d < 2 ^ 31) : nI a / nI d = nI (a / d) := by
  apply Int32.toInt_inj.mp
  rw [lg_idiv_nonneg (by rw [nI_toInt ha]; omega) (by rw [nI_toInt hd]; omega), nI_toInt ha, nI_toInt hd, nI_toInt (Nat.lt_of_le_of_lt (Nat.div_le_self a d) ha)]
  first | rfl | exact (Int.natCast_ediv _ _).symm
theorem pk_rem {a d : Nat} (ha : a < 2 ^ 31) (h0 : 0 < d) (hd : d < 2 ^ 31) : nI a - nI a / nI d * nI d = nI (a % d) := by
  rw [pk_div ha h0 hd, pk_mul, pk_sub (Nat.div_mul_le_self a d)]
  exact congrArg nI (by have := Nat.div_add_mod' a d; omega)
theorem pk_sub_toInt {a b : Nat} (ha : a < 2 ^ 30) (hb : b < 2 ^ 30) : (nI a - nI b).toInt = (a : Int) - b := by
  rw [Int32.toInt_sub, nI_toInt (by omega), nI_toInt (by omega)]
  exact Int.bmod_eq_of_le (by omega) (by omega)
theorem pk_sneg {a b : Nat} (hb : b < 2 ^ 30) (h : a < b) : nI a - nI b < 0 := by
  rw [Int32.lt_iff_toInt_lt, pk_sub_toInt (by omega) hb, show (0 : Int32).toInt = 0 from by decide]
  omega
theorem pk_ix (x : Int32) {n : Nat} (hn : n < 2 ^ 31) : x < 0 ∨ nI n ≤ x ∨ ∃ j : Nat, j < n ∧ x = nI j := by
  by_cases h : x < 0
  · exact Or.inl h
  · obtain ⟨j, hj, rfl⟩ := nI_of h
    by_cases h2 : j < n
    · exact Or.inr (Or.inr ⟨j, h2, rfl⟩)
    · exact Or.inr (Or.inl (nI_le (by omega) hj))
theorem pk_le {x y : Int32} {A B : Prop} (a b : Nat) (f : a ≤ b → A) (g : b < a → B) (hx : x = nI a := by rfl) (hy : y = nI b := by rfl) (ha : a < 2 ^ 31 := by omega) (hb : b < 2 ^ 31 := by omega) : (x ≤ y → A) ∧ (¬ x ≤ y → B) := by
  subst hx hy
  rw [nI_leI ha hb]
  exact ⟨f, fun z => g (by omega)⟩
theorem pk_lt {x y : Int32} {A B : Prop} (a b : Nat) (f : a < b → A) (g : b ≤ a → B) (hx : x = nI a := by rfl) (hy : y = nI b := by rfl) (ha : a < 2 ^ 31 := by omega) (hb : b < 2 ^ 31 := by omega) : (x < y → A) ∧ (¬ x < y → B) := by
  subst hx hy
  rw [nI_ltI ha hb]
  exact ⟨f, fun z => g (by omega)⟩
theorem pk_eq {x y : Int32} {A B : Prop} (a b : Nat) (f : a = b → A) (g : a ≠ b → B) (hx : x = nI a := by rfl) (hy : y = nI b := by rfl) (ha : a < 2 ^ 31 := by omega) (hb : b < 2 ^ 31 := by omega) : (x = y → A) ∧ (¬ x = y → B) := by
  subst hx hy
  rw [nI_eq ha hb]
  exact ⟨f, g⟩
theorem pk_in {x : Int32} (n N : Nat) (h : n < N) (hx : x = nI n := by rfl) (hN : N < 2 ^ 31 := by omega) : vp_in x N := by
  subst hx
  exact vp_in_nI h hN
theorem pk_cl {x : Int32} (n : Nat) (hx : x = nI n := by rfl) (h : n < 2 ^ 31 := by omega) : x.toNatClampNeg = n := by
  subst hx
  exact nI_clamp h
theorem pk_tn {n : Nat} (h : n < 2 ^ 32) : (nI n).toBitVec.toNat = n := Nat.mod_eq_of_lt h
theorem pk_and (x : Int32) {m : Int32} (k : Nat) (hm : m.toBitVec.toNat = 2 ^ k - 1) : x &&& m = nI (x.toBitVec.toNat % 2 ^ k) := by
  apply Int32.toBitVec_inj.mp
  apply BitVec.eq_of_toNat_eq
  rw [Int32.toBitVec_and, BitVec.toNat_and, hm, Nat.and_two_pow_sub_one_eq_mod]
  show _ = (BitVec.ofNat 32 _).toNat
  rw [BitVec.toNat_ofNat]
  exact (Nat.mod_eq_of_lt (Nat.lt_of_le_of_lt (Nat.mod_le _ _) x.toBitVec.isLt)).symm
theorem pk_andN {n : Nat} (h : n < 2 ^ 32) {m : Int32} (k : Nat) (hm : m.toBitVec.toNat = 2 ^ k - 1) : nI n &&& m = nI (n % 2 ^ k) := by
  rw [pk_and _ k hm, pk_tn h]
theorem pk_shl (a s : Int32) (k : Nat) (hs : (s.toBitVec.smod 32).toNat = k) : (a <<< s).toBitVec.toNat = a.toBitVec.toNat * 2 ^ k % 2 ^ 32 := by
  show (a.toBitVec <<< (s.toBitVec.smod 32).toNat).toNat = _
  rw [hs, BitVec.toNat_shiftLeft, Nat.shiftLeft_eq]
theorem pk_shlN {n : Nat} (s : Int32) (k : Nat) (hs : (s.toBitVec.smod 32).toNat = k) (h : n * 2 ^ k < 2 ^ 32) : nI n <<< s = nI (n * 2 ^ k) := by
  apply Int32.toBitVec_inj.mp
  apply BitVec.eq_of_toNat_eq
  have hn : n < 2 ^ 32 := Nat.lt_of_le_of_lt (Nat.le_mul_of_pos_right n (Nat.two_pow_pos k)) h
  rw [pk_shl _ _ k hs, pk_tn hn, pk_tn h, Nat.mod_eq_of_lt h]
theorem pk_shr (a s : Int32) (k : Nat) (hs : (s.toBitVec.smod 32).toNat = k) : (a >>> s).toInt = a.toInt >>> k := by
  show (a.toBitVec.sshiftRight (s.toBitVec.smod 32).toNat).toInt = _
  rw [hs, BitVec.toInt_sshiftRight]
  rfl
theorem pk_shrN {n : Nat} (h : n < 2 ^ 31) (s : Int32) (k : Nat) (hs : (s.toBitVec.smod 32).toNat = k) : nI n >>> s = nI (n / 2 ^ k) := by
  apply Int32.toInt_inj.mp
  have h2 : n / 2 ^ k ≤ n := Nat.div_le_self _ _
  rw [pk_shr _ _ k hs, nI_toInt h, nI_toInt (by omega), Int.shiftRight_eq_div_pow]
  rfl
theorem pk_loop {σ : Type} (W : Nat → Nat → σ → Prop) (I : Nat → σ → Prop) (e i0 : Nat) (s : σ) (hi : i0 ≤ e) (h0 : I i0 s) (hx : ∀ n s, I e s → W (n + 1) e s)
    (hs : ∀ n i s, i < e → I i s → (∀ s', I (i + 1) s' → W n (i + 1) s') → W (n + 1) i s) : ∃ n, W n i0 s :=
  ⟨e + 1, loop_i W I e hx hs (e + 1) i0 s hi (by omega) h0⟩
theorem pk_loopD {σ : Type} (W : Nat → Nat → σ → Prop) (I : Nat → σ → Prop) (hx : ∀ n s, I 0 s → W (n + 1) 0 s)
    (hs : ∀ n i s, I (i + 1) s → (∀ s', I i s' → W n i s') → W (n + 1) (i + 1) s) : ∀ (e : Nat) (s : σ), I e s → W (e + 1) e s := by
  intro e
  induction e with
  | zero => exact fun s h => hx 0 s h
  | succ e ih => exact fun s h => hs (e + 1) e s h (fun s' h' => ih s' h')
theorem wb_tb (n : Nat) : (lN n).toBitVec = BitVec.ofNat 64 n := rfl
theorem wb_inj {a b : Int64} (h : a.toBitVec = b.toBitVec) : a = b := Int64.toBitVec_inj.mp h
theorem wb_tn {n : Nat} (h : n < 2 ^ 64) : (lN n).toBitVec.toNat = n := by rw [wb_tb, BitVec.toNat_ofNat, Nat.mod_eq_of_lt h]
theorem wb_of (x : Int64) : ∃ n, n < 2 ^ 64 ∧ x = lN n := ⟨x.toBitVec.toNat, x.toBitVec.isLt, wb_inj (by rw [wb_tb]; simp)⟩
theorem wb_of32 (x : Int32) : ∃ n, n < 2 ^ 32 ∧ x = nI n := ⟨x.toBitVec.toNat, x.toBitVec.isLt, Int32.toBitVec_inj.mp (by show _ = BitVec.ofNat 32 _; simp)⟩
theorem wb_c : ∀ k, k < 64 → ((nI k).toInt64 &&& 63) = lN k := by decide +kernel
theorem wb_sm : ∀ k, k < 64 → (BitVec.ofNat 64 k).smod 64 = BitVec.ofNat 64 k := by decide +kernel
def bt (x : Int32) (i : Nat) : Bool := x.toBitVec.getLsbD i
theorem b_ext {x y : Int32} (h : ∀ i, i < 32 → bt x i = bt y i) : x = y := Int32.toBitVec_inj.mp (BitVec.eq_of_getLsbD_eq (fun i hi => h i hi))
theorem b_or (x y : Int32) (i : Nat) : bt (x ||| y) i = (bt x i || bt y i) := by unfold bt; rw [Int32.toBitVec_or, BitVec.getLsbD_or]
theorem b_and (x y : Int32) (i : Nat) : bt (x &&& y) i = (bt x i && bt y i) := by unfold bt; rw [Int32.toBitVec_and, BitVec.getLsbD_and]
theorem b_big {x : Int32} {i : Nat} (h : 32 ≤ i) : bt x i = false := BitVec.getLsbD_of_ge _ _ h
theorem b_0 (i : Nat) : bt 0 i = false := BitVec.getLsbD_zero
theorem s_l : ∀ n, n < 32 → ((nI n &&& 31).toBitVec.smod 32).toNat = n := by decide +kernel
theorem b_shl (n : Nat) (hn : n < 32) (x : Int32) {i : Nat} (hi : i < 32) : bt (x <<< (nI n &&& 31)) i = (decide (n ≤ i) && bt x (i - n)) := by
  unfold bt
  rw [Int32.toBitVec_shiftLeft]
  show (x.toBitVec <<< ((nI n &&& 31).toBitVec.smod 32).toNat).getLsbD i = _
  rw [s_l n hn, BitVec.getLsbD_shiftLeft]
  rcases Nat.lt_or_ge i n with h | h
  · simp [h, Nat.not_le.mpr h]
  · simp [hi, h, Nat.not_lt.mpr h]
theorem b_sshr (n : Nat) (hn : n < 32) (x : Int32) {i : Nat} (hi : i < 32) : bt (x >>> (nI n &&& 31)) i = if n + i < 32 then bt x (n + i) else bt x 31 := by
  unfold bt
  rw [Int32.toBitVec_shiftRight]
  show (x.toBitVec.sshiftRight ((nI n &&& 31).toBitVec.smod 32).toNat).getLsbD i = _
  rw [s_l n hn, BitVec.getLsbD_sshiftRight, BitVec.msb_eq_getLsbD_last]
  simp [hi]
theorem pk_least (P : Nat → Prop) (h : ∃ k, P k) : ∃ k, P k ∧ ∀ j, j < k → ¬ P j := by
  obtain ⟨k, hk⟩ := h
  induction k using Nat.strongRecOn with
  | ind k ih =>
    by_cases e : ∃ j, j < k ∧ P j
    · obtain ⟨j, hj, pj⟩ := e
      exact ih j hj pj
    · exact ⟨k, hk, fun j hj pj => e ⟨j, hj, pj⟩⟩
end
section
/-! sums, walks of the links, ranks: no printed predicate here -/
def tn_sm (f : Nat → Nat) : Nat → Nat
  | 0 => 0
  | n + 1 => tn_sm f n + f n
theorem tn_sm_le {f g : Nat → Nat} : ∀ {n : Nat}, (∀ i, i < n → f i ≤ g i) → tn_sm f n ≤ tn_sm g n
  | 0, _ => Nat.le_refl _
  | n + 1, h => by
    have a := tn_sm_le (n := n) (fun i hi => h i (by omega))
    have b := h n (by omega)
    simp only [tn_sm]; omega
theorem tn_sm_eq {f g : Nat → Nat} {n : Nat} (h : ∀ i, i < n → f i = g i) : tn_sm f n = tn_sm g n :=
  Nat.le_antisymm (tn_sm_le fun i hi => Nat.le_of_eq (h i hi)) (tn_sm_le fun i hi => Nat.le_of_eq (h i hi).symm)
theorem tn_sm_add {f g : Nat → Nat} {a d : Nat} : ∀ {n : Nat}, (∀ i, i < n → f i ≤ g i) → a < n → f a + d ≤ g a → tn_sm f n + d ≤ tn_sm g n
  | 0, _, h, _ => by omega
  | n + 1, h, ha, hd => by
    simp only [tn_sm]
    rcases Nat.lt_or_ge a n with z | z
    · have x := tn_sm_add (n := n) (fun i hi => h i (by omega)) z hd
      have b := h n (by omega)
      omega
    · have e : a = n := by omega
      subst e
      have x := tn_sm_le (n := a) (fun i hi => h i (by omega))
      omega
theorem tn_sm_adde {f g : Nat → Nat} {a d : Nat} : ∀ {n : Nat}, (∀ i, i < n → i ≠ a → f i = g i) → a < n → f a + d = g a → tn_sm f n + d = tn_sm g n
  | 0, _, h, _ => by omega
  | n + 1, h, ha, hd => by
    simp only [tn_sm]
    rcases Nat.lt_or_ge a n with z | z
    · have x := tn_sm_adde (n := n) (fun i hi => h i (by omega)) z hd
      have b := h n (by omega) (by omega)
      omega
    · have e : a = n := by omega
      subst e
      have x := tn_sm_eq (f := f) (g := g) (n := a) (fun i hi => h i (by omega) (by omega))
      omega
theorem tn_sm_bd {f : Nat → Nat} {b : Nat} : ∀ {n : Nat}, (∀ i, i < n → f i ≤ b) → tn_sm f n ≤ n * b
  | 0, _ => by simp [tn_sm]
  | n + 1, h => by
    have x := tn_sm_bd (n := n) (fun i hi => h i (by omega))
    have y := h n (by omega)
    simp only [tn_sm, Nat.add_mul]; omega
theorem tn_sm_pos {f : Nat → Nat} : ∀ {n : Nat}, 0 < tn_sm f n → ∃ i, i < n ∧ 0 < f i
  | 0, h => by simp [tn_sm] at h
  | n + 1, h => by
    rcases Nat.eq_zero_or_pos (f n) with z | z
    · simp only [tn_sm, z, Nat.add_zero] at h
      obtain ⟨i, hi, hp⟩ := tn_sm_pos h
      exact ⟨i, by omega, hp⟩
    · exact ⟨n, by omega, z⟩
def tn_cd (a b : Nat) : Nat := if a < b then 6 * a + b else 6 * b + a
theorem tn_cd_comm (a b : Nat) : tn_cd a b = tn_cd b a := by
  unfold tn_cd
  split <;> split <;> omega
theorem tn_cd_lt {a b : Nat} (ha : a < 6) (hb : b < 6) : tn_cd a b < 36 := by
  unfold tn_cd
  split <;> omega
theorem tn_cd_dm {a b : Nat} (hb : b < 6) (h : a < b) : tn_cd a b / 6 = a ∧ tn_cd a b % 6 = b := by
  unfold tn_cd
  rw [if_pos h]
  omega
theorem tn_cd_of {c : Nat} (h : c / 6 < c % 6) : tn_cd (c / 6) (c % 6) = c := by
  unfold tn_cd
  rw [if_pos h]
  omega
theorem tn_cd_ne {a b : Nat} (hb : b < 6) (ha : a < 6) (h : tn_cd a b / 6 < tn_cd a b % 6) : a ≠ b := by
  intro e
  subst e
  unfold tn_cd at h
  rw [if_neg (Nat.lt_irrefl a)] at h
  omega
/-- the two ends of a code that a link between a and b has -/
theorem tn_cd_ends {a b : Nat} (ha : a < 6) (hb : b < 6) (h : tn_cd a b / 6 < tn_cd a b % 6) : (tn_cd a b / 6 = a ∧ tn_cd a b % 6 = b) ∨ (tn_cd a b / 6 = b ∧ tn_cd a b % 6 = a) := by
  have n := tn_cd_ne hb ha h
  rcases Nat.lt_or_ge a b with z | z
  · exact Or.inl (tn_cd_dm hb z)
  · rw [tn_cd_comm]
    exact Or.inr (tn_cd_dm ha (by omega))
def tn_Gd (E : Nat → Prop) : Prop := ∀ c, E c → c < 36 ∧ c / 6 < c % 6
def tn_PW (E : Nat → Prop) (w : Nat → Nat) (g : Nat) : Nat → Nat → Nat → Prop
  | 0, v, x => v = g ∧ x = 0
  | r + 1, v, x => tn_PW E w g r v x ∨ ∃ u y, u < 6 ∧ E (tn_cd v u) ∧ tn_PW E w g r u y ∧ x = y + w (tn_cd v u)
def tn_RI (E : Nat → Prop) (w : Nat → Nat) (g F : Nat) (k : Nat → Nat) : Prop :=
  k g = 0 ∧ (∀ v, v < 6 → k v ≤ F) ∧ ∀ v, v < 6 → v ≠ g → k v < F → ∃ u, u < 6 ∧ E (tn_cd v u) ∧ k u + w (tn_cd v u) ≤ k v
def tn_UB (E : Nat → Prop) (w : Nat → Nat) (g r : Nat) (k : Nat → Nat) : Prop := ∀ v x, v < 6 → tn_PW E w g r v x → k v ≤ x
def tn_RD (E : Nat → Prop) (w : Nat → Nat) (g r c : Nat) (k : Nat → Nat) : Prop :=
  ∀ d, d < c → E d → (∀ x, tn_PW E w g r (d % 6) x → k (d / 6) ≤ x + w d) ∧ (∀ x, tn_PW E w g r (d / 6) x → k (d % 6) ≤ x + w d)
def tn_LI (E : Nat → Prop) (w : Nat → Nat) (g F r c : Nat) (k : Nat → Nat) : Prop := tn_RI E w g F k ∧ tn_UB E w g r k ∧ tn_RD E w g r c k
def tn_rx (a b s : Nat) (k : Nat → Nat) : Nat → Nat := fun i => if i = a ∧ k b + s < k a then k b + s else k i
theorem tn_rx_le (a b s : Nat) (k : Nat → Nat) (i : Nat) : tn_rx a b s k i ≤ k i := by
  unfold tn_rx
  split
  · rename_i h
    rw [h.1]
    omega
  · exact Nat.le_refl _
theorem tn_rx_a (a b s : Nat) (k : Nat → Nat) : tn_rx a b s k a ≤ k b + s := by
  unfold tn_rx
  split
  · exact Nat.le_refl _
  · rename_i h
    have : ¬ k b + s < k a := fun z => h ⟨rfl, z⟩
    omega
theorem tn_rx_n {a b s : Nat} {k : Nat → Nat} {i : Nat} (h : i ≠ a) : tn_rx a b s k i = k i := by
  unfold tn_rx
  rw [if_neg (fun z => h z.1)]
theorem tn_rx_RI {E : Nat → Prop} {w : Nat → Nat} {g F : Nat} {k : Nat → Nat} {a b s : Nat} (h : tn_RI E w g F k) (hb : b < 6) (e : E (tn_cd a b)) (hs : w (tn_cd a b) = s) : tn_RI E w g F (tn_rx a b s k) := by
  obtain ⟨h1, h2, h3⟩ := h
  have le := tn_rx_le a b s k
  refine ⟨by have := le g; omega, fun v hv => Nat.le_trans (le v) (h2 v hv), fun v hv hg hF => ?_⟩
  by_cases hc : v = a ∧ k b + s < k a
  · have e1 : tn_rx a b s k v = k b + s := by unfold tn_rx; rw [if_pos hc]
    have := le b
    rw [hc.1] at e1 ⊢
    exact ⟨b, hb, e, by omega⟩
  · have e1 : tn_rx a b s k v = k v := by unfold tn_rx; rw [if_neg hc]
    obtain ⟨u, hu, eu, hk⟩ := h3 v hv hg (by omega)
    exact ⟨u, hu, eu, by have := le u; omega⟩
theorem tn_UB_le {E : Nat → Prop} {w : Nat → Nat} {g r : Nat} {k k' : Nat → Nat} (h : tn_UB E w g r k) (l : ∀ i, k' i ≤ k i) : tn_UB E w g r k' := fun v x hv p => Nat.le_trans (l v) (h v x hv p)
theorem tn_RD_le {E : Nat → Prop} {w : Nat → Nat} {g r c : Nat} {k k' : Nat → Nat} (h : tn_RD E w g r c k) (l : ∀ i, k' i ≤ k i) : tn_RD E w g r c k' := fun d hd e =>
  ⟨fun x p => Nat.le_trans (l _) ((h d hd e).1 x p), fun x p => Nat.le_trans (l _) ((h d hd e).2 x p)⟩
theorem tn_LI_skip {E : Nat → Prop} {w : Nat → Nat} {g F r c : Nat} {k : Nat → Nat} (h : tn_LI E w g F r c k) (e : ¬ E c) : tn_LI E w g F r (c + 1) k := by
  refine ⟨h.1, h.2.1, fun d hd ed => ?_⟩
  rcases Nat.lt_or_ge d c with z | z
  · exact h.2.2 d z ed
  · exact absurd ((show d = c by omega) ▸ ed) e
theorem tn_LI_step {E : Nat → Prop} {w : Nat → Nat} {g F r c : Nat} {k : Nat → Nat} (hE : tn_Gd E) (h : tn_LI E w g F r c k) (e : E c) : tn_LI E w g F r (c + 1) (tn_rx (c % 6) (c / 6) (w c) (tn_rx (c / 6) (c % 6) (w c) k)) := by
  obtain ⟨h1, h2, h3⟩ := h
  have gd := hE c e
  have ec := tn_cd_of gd.2
  have ec' : tn_cd (c % 6) (c / 6) = c := by rw [tn_cd_comm]; exact ec
  have l1 := tn_rx_le (c / 6) (c % 6) (w c) k
  have l2 := tn_rx_le (c % 6) (c / 6) (w c) (tn_rx (c / 6) (c % 6) (w c) k)
  have l : ∀ i, tn_rx (c % 6) (c / 6) (w c) (tn_rx (c / 6) (c % 6) (w c) k) i ≤ k i := fun i => Nat.le_trans (l2 i) (l1 i)
  have a1 := tn_rx_a (c / 6) (c % 6) (w c) k
  have a2 := tn_rx_a (c % 6) (c / 6) (w c) (tn_rx (c / 6) (c % 6) (w c) k)
  refine ⟨tn_rx_RI (tn_rx_RI h1 (by omega) (ec.symm ▸ e) (by rw [ec])) (by omega) (ec'.symm ▸ e) (by rw [ec']), tn_UB_le h2 l, fun d hd ed => ?_⟩
  rcases Nat.lt_or_ge d c with z | z
  · exact tn_RD_le h3 l d z ed
  · have : d = c := by omega
    subst this
    refine ⟨fun x p => ?_, fun x p => ?_⟩
    · have := h2 _ x (by omega) p
      have := l2 (d / 6)
      omega
    · have := h2 _ x (by omega) p
      have := l1 (d / 6)
      omega
theorem tn_LI_next {E : Nat → Prop} {w : Nat → Nat} {g F r : Nat} {k : Nat → Nat} (hE : tn_Gd E) (h : tn_LI E w g F r 36 k) : tn_LI E w g F (r + 1) 0 k := by
  refine ⟨h.1, fun v x hv p => ?_, fun d hd => absurd hd (Nat.not_lt_zero d)⟩
  rcases p with p | ⟨u, y, hu, e, p, rfl⟩
  · exact h.2.1 v x hv p
  · have gd := hE _ e
    have q := h.2.2 _ gd.1 e
    rcases tn_cd_ends hv hu gd.2 with ⟨e1, e2⟩ | ⟨e1, e2⟩
    · rw [e1, e2] at q
      exact q.1 y p
    · rw [e1, e2] at q
      exact q.2 y p
theorem tn_LI_0 {E : Nat → Prop} {w : Nat → Nat} {g F : Nat} {k : Nat → Nat} (hg : k g = 0) (hk : ∀ v, v < 6 → v ≠ g → k v = F) : tn_LI E w g F 0 0 k := by
  refine ⟨⟨hg, fun v hv => ?_, fun v hv n l => ?_⟩, fun v x hv p => ?_, fun d hd => absurd hd (Nat.not_lt_zero d)⟩
  · by_cases z : v = g
    · subst z; omega
    · exact Nat.le_of_eq (hk v hv z)
  · have := hk v hv n
    omega
  · obtain ⟨rfl, rfl⟩ := p
    omega
theorem tn_PW_mono {E : Nat → Prop} {w : Nat → Nat} {g r r' v x : Nat} (h : r ≤ r') (p : tn_PW E w g r v x) : tn_PW E w g r' v x := by
  obtain ⟨d, rfl⟩ : ∃ d, r' = r + d := ⟨r' - r, by omega⟩
  clear h
  induction d with
  | zero => exact p
  | succ d ih => exact Or.inl ih
def tn_ct (k : Nat → Nat) (m : Nat) : Nat := tn_sm (fun y => if k y < m then 1 else 0) 6
theorem tn_ct_lt {k : Nat → Nat} {u v : Nat} (hu : u < 6) (h : k u < k v) : tn_ct k (k u) + 1 ≤ tn_ct k (k v) := by
  refine tn_sm_add (a := u) (fun i hi => ?_) hu ?_
  · split <;> split <;> omega
  · rw [if_neg (Nat.lt_irrefl _), if_pos h]
    exact Nat.le_refl _
theorem tn_ct_le {k : Nat → Nat} {v : Nat} (hv : v < 6) : tn_ct k (k v) ≤ 5 := by
  have h : tn_ct k (k v) + 1 ≤ tn_sm (fun _ => 1) 6 := by
    refine tn_sm_add (a := v) (fun i hi => ?_) hv ?_
    · split <;> omega
    · rw [if_neg (Nat.lt_irrefl _)]
      exact Nat.le_refl _
  have e : tn_sm (fun _ => 1) 6 = 6 := rfl
  omega
theorem tn_chain {E : Nat → Prop} {w : Nat → Nat} {g F : Nat} {k : Nat → Nat} (hw : ∀ c, 1 ≤ w c) (h : tn_RI E w g F k) : ∀ N v, k v < N → v < 6 → k v < F → ∃ x, tn_PW E w g (tn_ct k (k v)) v x ∧ x ≤ k v := by
  intro N
  induction N with
  | zero => intro v h; omega
  | succ N ih =>
    intro v hN hv hF
    by_cases hg : v = g
    · exact ⟨0, tn_PW_mono (Nat.zero_le _) ⟨hg, rfl⟩, Nat.zero_le _⟩
    · obtain ⟨u, hu, e, hk⟩ := h.2.2 v hv hg hF
      have := hw (tn_cd v u)
      obtain ⟨x, p, hx⟩ := ih u (by omega) hu (by omega)
      exact ⟨x + w (tn_cd v u), tn_PW_mono (tn_ct_lt (v := v) hu (by omega)) (Or.inr ⟨u, x, hu, e, p, rfl⟩), by omega⟩
/-- the ranks: what they are in the end -/
def tn_RK (E : Nat → Prop) (w : Nat → Nat) (g F : Nat) (k : Nat → Nat) : Prop :=
  k g = 0 ∧ (∀ v, v < 6 → k v ≤ F) ∧ (∀ a b, a < 6 → b < 6 → E (tn_cd a b) → k a ≤ k b + w (tn_cd a b)) ∧
  ∀ v, v < 6 → v ≠ g → k v < F → ∃ u, u < 6 ∧ E (tn_cd v u) ∧ k u + w (tn_cd v u) = k v
theorem tn_LI_fin {E : Nat → Prop} {w : Nat → Nat} {g F : Nat} {k : Nat → Nat} (hw : ∀ c, 1 ≤ w c) (h : tn_LI E w g F 5 0 k) : tn_RK E w g F k := by
  have fx : ∀ a b, a < 6 → b < 6 → E (tn_cd a b) → k a ≤ k b + w (tn_cd a b) := by
    intro a b ha hb e
    rcases Nat.lt_or_ge (k b) (k a) with z | z
    · have hF := h.1.2.1 a ha
      obtain ⟨x, p, hx⟩ := tn_chain hw h.1 _ b (Nat.lt_succ_self _) hb (by omega)
      have c1 := tn_ct_lt (v := a) hb z
      have c2 := tn_ct_le (k := k) ha
      have q : tn_PW E w g 5 a (x + w (tn_cd a b)) := Or.inr ⟨b, x, hb, e, tn_PW_mono (show _ ≤ 4 by omega) p, rfl⟩
      have := h.2.1 a _ ha q
      omega
    · omega
  refine ⟨h.1.1, h.1.2.1, fx, fun v hv hg hF => ?_⟩
  obtain ⟨u, hu, e, hk⟩ := h.1.2.2 v hv hg hF
  exact ⟨u, hu, e, Nat.le_antisymm hk (fx v u hv hu e)⟩
end
section
/-! the walk along the ranks, paths by number, the best path -/
def tn_hv (f : Nat → Nat) : Nat → Nat
  | 0 => 0
  | k + 1 => 6 * tn_hv f k + f (k + 1)
theorem tn_hv_lt {f : Nat → Nat} : ∀ b, (∀ i, i < b → f (i + 1) < 6) → tn_hv f b < 6 ^ b
  | 0, _ => by simp [tn_hv]
  | b + 1, h => by
    have a := tn_hv_lt b (fun i hi => h i (by omega))
    have c := h b (by omega)
    simp only [tn_hv, Nat.pow_succ]
    omega
theorem tn_hv_div {f : Nat → Nat} (i : Nat) : ∀ d, (∀ j, j < i + d → f (j + 1) < 6) → tn_hv f (i + d) / 6 ^ d = tn_hv f i
  | 0, _ => by simp
  | d + 1, h => by
    have a := tn_hv_div i d (fun j hj => h j (by omega))
    have c := h (i + d) (by omega)
    have e : tn_hv f (i + (d + 1)) = 6 * tn_hv f (i + d) + f (i + d + 1) := rfl
    rw [e, Nat.pow_succ, Nat.mul_comm (6 ^ d) 6, ← Nat.div_div_eq_div_mul, show (6 * tn_hv f (i + d) + f (i + d + 1)) / 6 = tn_hv f (i + d) by omega]
    exact a
def tn_pt (e b n : Nat) : Nat → Nat := fun i => if i = 0 then e / 6 else if i = b + 1 then e % 6 else n / 6 ^ (b - i) % 6
theorem tn_pt_0 (e b n : Nat) : tn_pt e b n 0 = e / 6 := rfl
theorem tn_pt_e (e b n : Nat) : tn_pt e b n (b + 1) = e % 6 := by
  unfold tn_pt
  rw [if_neg (by omega), if_pos rfl]
theorem tn_pt_m {e b n i : Nat} (h0 : i ≠ 0) (h : i ≤ b) : tn_pt e b n i = n / 6 ^ (b - i) % 6 := by
  unfold tn_pt
  rw [if_neg h0, if_neg (by omega)]
theorem tn_pt_lt {e b n i : Nat} (he : e < 36) : tn_pt e b n i < 6 := by
  unfold tn_pt
  split
  · omega
  · split
    · omega
    · exact Nat.mod_lt _ (by omega)
/-- every path of b nodes between has a number -/
theorem tn_pt_of {f : Nat → Nat} {e b : Nat} (h0 : f 0 = e / 6) (h1 : f (b + 1) = e % 6) (hf : ∀ i, i < b → f (i + 1) < 6) : tn_hv f b < 6 ^ b ∧ ∀ i, i ≤ b + 1 → f i = tn_pt e b (tn_hv f b) i := by
  refine ⟨tn_hv_lt b hf, fun i hi => ?_⟩
  by_cases z : i = 0
  · subst z; exact h0
  · by_cases y : i = b + 1
    · subst y; rw [tn_pt_e]; exact h1
    · rw [tn_pt_m z (by omega)]
      have q := tn_hv_div (f := f) i (b - i) (fun j hj => hf j (by omega))
      rw [show i + (b - i) = b by omega] at q
      rw [q]
      obtain ⟨j, rfl⟩ : ∃ j, i = j + 1 := ⟨i - 1, by omega⟩
      have := hf j (by omega)
      simp only [tn_hv]
      omega
theorem tn_pt_hv {e b n : Nat} (hn : n < 6 ^ b) : ∀ i, i ≤ b → tn_hv (tn_pt e b n) i = n / 6 ^ (b - i)
  | 0, _ => by simp [tn_hv, Nat.div_eq_of_lt hn]
  | i + 1, h => by
    have a := tn_pt_hv (e := e) hn i (by omega)
    simp only [tn_hv]
    rw [a, tn_pt_m (by omega) h, show b - i = (b - (i + 1)) + 1 by omega, Nat.pow_succ, ← Nat.div_div_eq_div_mul]
    omega
/-- the number of the lesser path is the lesser one -/
theorem tn_hv_cmp {f q : Nat → Nat} {b : Nat} (h0 : f 0 = q 0) (hf : ∀ i, i < b → f (i + 1) < 6) (h : ∀ i, i < b → f i = q i → f (i + 1) ≤ q (i + 1)) : ∀ i, i ≤ b → tn_hv f i < tn_hv q i ∨ (tn_hv f i = tn_hv q i ∧ f i = q i)
  | 0, _ => Or.inr ⟨rfl, h0⟩
  | i + 1, hi => by
    have c := hf i (by omega)
    simp only [tn_hv]
    rcases tn_hv_cmp h0 hf h i (by omega) with a | ⟨a, a'⟩
    · exact Or.inl (by omega)
    · have := h i (by omega) a'
      rcases Nat.lt_or_ge (f (i + 1)) (q (i + 1)) with z | z
      · exact Or.inl (by omega)
      · exact Or.inr ⟨by omega, by omega⟩
def tn_VA (E : Nat → Prop) (e b n : Nat) : Prop := (∀ i j, i < b + 2 → j < i → tn_pt e b n i ≠ tn_pt e b n j) ∧ ∀ i, i < b + 1 → E (tn_cd (tn_pt e b n i) (tn_pt e b n (i + 1)))
def tn_CO (co : Nat → Nat) (p : Nat → Nat) (m : Nat) : Nat := tn_sm (fun i => co (tn_cd (p i) (p (i + 1)))) m
def tn_BE (E : Nat → Prop) (co : Nat → Nat) (e b n : Nat) : Prop :=
  b < 5 ∧ n < 6 ^ b ∧ tn_VA E e b n ∧ ∀ b' n', b' < 5 → n' < 6 ^ b' → tn_VA E e b' n' →
    tn_CO co (tn_pt e b n) (b + 1) < tn_CO co (tn_pt e b' n') (b' + 1) ∨ (tn_CO co (tn_pt e b n) (b + 1) = tn_CO co (tn_pt e b' n') (b' + 1) ∧ (b < b' ∨ (b = b' ∧ n ≤ n')))
theorem tn_BE_uniq {E : Nat → Prop} {co : Nat → Nat} {e b n b' n' : Nat} (h : tn_BE E co e b n) (h' : tn_BE E co e b' n') : b = b' ∧ n = n' := by
  have a := h.2.2.2 b' n' h'.1 h'.2.1 h'.2.2.1
  have c := h'.2.2.2 b n h.1 h.2.1 h.2.2.1
  omega
def tn_w (co : Nat → Nat) (c : Nat) : Nat := 8 * co c + 1
theorem tn_CO_w {co : Nat → Nat} {p : Nat → Nat} : ∀ m, tn_sm (fun i => tn_w co (tn_cd (p i) (p (i + 1)))) m = 8 * tn_CO co p m + m
  | 0 => rfl
  | m + 1 => by
    have a := tn_CO_w (co := co) (p := p) m
    simp only [tn_CO, tn_sm, tn_w] at a ⊢
    omega
theorem tn_CO_eq {co : Nat → Nat} {p q : Nat → Nat} {m : Nat} (h : ∀ i, i ≤ m → p i = q i) : tn_CO co p m = tn_CO co q m :=
  tn_sm_eq fun i hi => by rw [h i (by omega), h (i + 1) (by omega)]
/-- X's walk: each node the least one that lies on a best path -/
def tn_TR (E : Nat → Prop) (w : Nat → Nat) (k : Nat → Nat) (s : Nat) (f : Nat → Nat) (m : Nat) : Prop :=
  f 0 = s ∧ (∀ i, i ≤ m → f i < 6) ∧ ∀ i, i < m → E (tn_cd (f i) (f (i + 1))) ∧ k (f (i + 1)) + w (tn_cd (f i) (f (i + 1))) = k (f i) ∧
    ∀ u, u < 6 → E (tn_cd (f i) u) → k u + w (tn_cd (f i) u) = k (f i) → f (i + 1) ≤ u
theorem tn_TR_k {E : Nat → Prop} {w k : Nat → Nat} {s m : Nat} {f : Nat → Nat} (h : tn_TR E w k s f m) : ∀ i, i ≤ m → k s = tn_sm (fun j => w (tn_cd (f j) (f (j + 1)))) i + k (f i)
  | 0, _ => by simp [tn_sm, h.1]
  | i + 1, hi => by
    have a := tn_TR_k h i (by omega)
    have c := (h.2.2 i (by omega)).2.1
    simp only [tn_sm]
    omega
theorem tn_TR_ct {E : Nat → Prop} {w k : Nat → Nat} {s m : Nat} {f : Nat → Nat} (hw : ∀ c, 1 ≤ w c) (h : tn_TR E w k s f m) : ∀ i, i ≤ m → tn_ct k (k (f i)) + i ≤ 5
  | 0, _ => tn_ct_le (h.2.1 0 (Nat.zero_le _))
  | i + 1, hi => by
    have a := tn_TR_ct hw h i (by omega)
    have c := (h.2.2 i (by omega)).2.1
    have := hw (tn_cd (f i) (f (i + 1)))
    have := tn_ct_lt (k := k) (v := f i) (h.2.1 (i + 1) hi) (by omega)
    omega
theorem tn_TR_dec {E : Nat → Prop} {w k : Nat → Nat} {s m : Nat} {f : Nat → Nat} (hw : ∀ c, 1 ≤ w c) (h : tn_TR E w k s f m) (j : Nat) : ∀ d, j + d + 1 ≤ m → k (f (j + d + 1)) < k (f j)
  | 0, hd => by
    have c := (h.2.2 j (by omega)).2.1
    have := hw (tn_cd (f j) (f (j + 1)))
    show k (f (j + 1)) < _
    omega
  | d + 1, hd => by
    have a := tn_TR_dec hw h j d (by omega)
    have c := (h.2.2 (j + d + 1) (by omega)).2.1
    have := hw (tn_cd (f (j + d + 1)) (f (j + d + 1 + 1)))
    show k (f (j + d + 1 + 1)) < _
    omega
theorem tn_w_1 {co : Nat → Nat} (c : Nat) : 1 ≤ tn_w co c := by unfold tn_w; omega
/-- a path's weight is no less than the rank -/
theorem tn_Q_le {E : Nat → Prop} {w k : Nat → Nat} {g F : Nat} {q : Nat → Nat} {m : Nat} (K : tn_RK E w g F k) (hq : ∀ i, q i < 6) (he : ∀ i, i < m → E (tn_cd (q i) (q (i + 1)))) : ∀ i, i ≤ m → k (q 0) ≤ tn_sm (fun j => w (tn_cd (q j) (q (j + 1)))) i + k (q i)
  | 0, _ => by simp [tn_sm]
  | i + 1, hi => by
    have a := tn_Q_le K hq he i (by omega)
    have c := K.2.2.1 _ _ (hq i) (hq (i + 1)) (he i (by omega))
    simp only [tn_sm]
    omega
theorem tn_Q_suf {E : Nat → Prop} {w k : Nat → Nat} {g F : Nat} {q : Nat → Nat} {m : Nat} (K : tn_RK E w g F k) (hq : ∀ i, q i < 6) (he : ∀ i, i < m → E (tn_cd (q i) (q (i + 1)))) (hg : q m = g) : ∀ d i, i + d = m → k (q i) + tn_sm (fun j => w (tn_cd (q j) (q (j + 1)))) i ≤ tn_sm (fun j => w (tn_cd (q j) (q (j + 1)))) m
  | 0, i, h => by
    have : i = m := by omega
    subst this
    rw [hg, K.1]
    omega
  | d + 1, i, h => by
    have a := tn_Q_suf K hq he hg d (i + 1) (by omega)
    have c := K.2.2.1 _ _ (hq i) (hq (i + 1)) (he i (by omega))
    simp only [tn_sm] at a
    omega
/-- what X's walk finds is the best path -/
theorem tn_TR_best {E : Nat → Prop} {co k : Nat → Nat} {F e m : Nat} {f : Nat → Nat} (K : tn_RK E (tn_w co) (e % 6) F k) (h36 : e < 36) (hne : e / 6 ≠ e % 6) (h : tn_TR E (tn_w co) k (e / 6) f m) (hg : f m = e % 6) :
    ∃ b n, m = b + 1 ∧ tn_BE E co e b n ∧ (∀ i, i ≤ m → f i = tn_pt e b n i) ∧ k (e / 6) = 8 * tn_CO co (tn_pt e b n) (b + 1) + (b + 1) := by
  have hm : m ≠ 0 := by
    intro z
    subst z
    exact hne (h.1.symm.trans hg)
  obtain ⟨b, rfl⟩ : ∃ b, m = b + 1 := ⟨m - 1, by omega⟩
  obtain ⟨hn, hp⟩ := tn_pt_of (f := f) (e := e) (b := b) h.1 hg (fun i hi => h.2.1 (i + 1) (by omega))
  have hb5 := tn_TR_ct tn_w_1 h (b + 1) (Nat.le_refl _)
  have kw : k (e / 6) = 8 * tn_CO co f (b + 1) + (b + 1) := by
    have a := tn_TR_k h (b + 1) (Nat.le_refl _)
    rw [hg, K.1, tn_CO_w] at a
    omega
  have cf : tn_CO co f (b + 1) = tn_CO co (tn_pt e b (tn_hv f b)) (b + 1) := tn_CO_eq (fun i hi => hp i hi)
  refine ⟨b, tn_hv f b, rfl, ⟨by omega, hn, ⟨fun i j hi hj => ?_, fun i hi => ?_⟩, fun b' n' hb' hn' hv => ?_⟩, hp, by rw [← cf]; exact kw⟩
  · rw [← hp i (by omega), ← hp j (by omega)]
    obtain ⟨d, rfl⟩ : ∃ d, i = j + d + 1 := ⟨i - j - 1, by omega⟩
    have := tn_TR_dec tn_w_1 h j d (by omega)
    intro z
    rw [z] at this
    omega
  · rw [← hp i (by omega), ← hp (i + 1) (by omega)]
    exact (h.2.2 i (by omega)).1
  · rw [← cf]
    have q6 : ∀ i, tn_pt e b' n' i < 6 := fun i => tn_pt_lt h36
    have a := tn_Q_le K q6 hv.2 (b' + 1) (Nat.le_refl _)
    rw [tn_pt_e, K.1, tn_CO_w, tn_pt_0] at a
    rcases Nat.lt_or_ge (tn_CO co f (b + 1)) (tn_CO co (tn_pt e b' n') (b' + 1)) with z | z
    · exact Or.inl z
    · refine Or.inr ⟨by omega, ?_⟩
      rcases Nat.lt_or_ge b b' with y | y
      · exact Or.inl y
      · have eb : b' = b := by omega
        subst eb
        refine Or.inr ⟨rfl, ?_⟩
        have tight : ∀ i, i < b' + 1 → k (tn_pt e b' n' (i + 1)) + tn_w co (tn_cd (tn_pt e b' n' i) (tn_pt e b' n' (i + 1))) = k (tn_pt e b' n' i) := by
          intro i hi
          have s1 := tn_Q_suf K q6 hv.2 (tn_pt_e e b' n') (b' + 1 - (i + 1)) (i + 1) (by omega)
          have s2 := tn_Q_le K q6 hv.2 i (by omega)
          have s3 := K.2.2.1 _ _ (q6 i) (q6 (i + 1)) (hv.2 i hi)
          have ei : tn_sm (fun j => tn_w co (tn_cd (tn_pt e b' n' j) (tn_pt e b' n' (j + 1)))) (i + 1) = tn_sm (fun j => tn_w co (tn_cd (tn_pt e b' n' j) (tn_pt e b' n' (j + 1)))) i + tn_w co (tn_cd (tn_pt e b' n' i) (tn_pt e b' n' (i + 1))) := rfl
          have ew := tn_CO_w (co := co) (p := tn_pt e b' n') (b' + 1)
          rw [ei, ew] at s1
          rw [tn_pt_0] at s2
          omega
        have c := tn_hv_cmp (f := f) (q := tn_pt e b' n') (b := b') (h.1.trans (tn_pt_0 e b' n').symm) (fun i hi => h.2.1 (i + 1) (by omega)) (fun i hi hfq => by
          have hv1 := hv.2 i (by omega)
          have tg := tight i (by omega)
          rw [← hfq] at hv1 tg
          exact (h.2.2 i (by omega)).2.2 _ (q6 _) hv1 tg) b' (Nat.le_refl _)
        rw [tn_pt_hv hn' b' (Nat.le_refl _), Nat.sub_self, Nat.pow_zero, Nat.div_one] at c
        omega
/-- there is a path where there is a fit one by number -/
theorem tn_VA_rk {E : Nat → Prop} {co k : Nat → Nat} {e b n : Nat} (K : tn_RK E (tn_w co) (e % 6) 1000000 k) (h36 : e < 36) (hc : ∀ c, E c → co c ≤ 20) (hb : b < 5) (hv : tn_VA E e b n) : k (e / 6) < 1000000 := by
  have a := tn_Q_le K (fun i => tn_pt_lt h36) hv.2 (b + 1) (Nat.le_refl _)
  rw [tn_pt_e, K.1, tn_CO_w, tn_pt_0] at a
  have c : tn_CO co (tn_pt e b n) (b + 1) ≤ (b + 1) * 20 := tn_sm_bd fun i hi => hc _ (hv.2 i hi)
  omega
end
section
/-! the small methods of both sides -/
abbrev tn_I (f : Nat → Nat) : Nat → Int32 := fun i => nI (f i)
def tn_up (f : Nat → Nat) (k x : Nat) : Nat → Nat := fun j => if j = k then x else f j
theorem tn_up_s (f : Nat → Nat) (k x : Nat) : tn_up f k x k = x := if_pos rfl
theorem tn_up_n {f : Nat → Nat} {k x j : Nat} (h : j ≠ k) : tn_up f k x j = f j := if_neg h
theorem tn_up_I (f : Nat → Nat) (k x : Nat) : upd (tn_I f) k (nI x) = tn_I (tn_up f k x) := by
  funext j
  show (if j = k then nI x else nI (f j)) = nI (if j = k then x else f j)
  split <;> rfl
theorem tn_up_le {f : Nat → Nat} {k x b : Nat} (h : ∀ i, f i ≤ b) (hx : x ≤ b) : ∀ i, tn_up f k x i ≤ b := fun i => by
  unfold tn_up
  split
  · exact hx
  · exact h i
noncomputable def tn_q (P : Prop) (x : Nat) : Nat := @ite Nat P (Classical.propDecidable P) x 0
theorem tn_q_t {P : Prop} {x : Nat} (h : P) : tn_q P x = x := by unfold tn_q; rw [if_pos h]
theorem tn_q_f {P : Prop} {x : Nat} (h : ¬ P) : tn_q P x = 0 := by unfold tn_q; rw [if_neg h]
theorem tn_q_le {P : Prop} {x : Nat} : tn_q P x ≤ x := by
  rcases Classical.em P with h | h
  · rw [tn_q_t h]; exact Nat.le_refl _
  · rw [tn_q_f h]; exact Nat.zero_le _
theorem tn_q_mono {P Q : Prop} {x : Nat} (h : P → Q) : tn_q P x ≤ tn_q Q x := by
  rcases Classical.em P with hp | hp
  · rw [tn_q_t hp, tn_q_t (h hp)]; exact Nat.le_refl _
  · rw [tn_q_f hp]; exact Nat.zero_le _
theorem tn_q_iff {P Q : Prop} {x : Nat} (h : P ↔ Q) : tn_q P x = tn_q Q x := Nat.le_antisymm (tn_q_mono h.1) (tn_q_mono h.2)
def tn_ov (ln nd : Nat → Nat) (t c : Nat) : Prop := ∃ i, i + 1 < ln t ∧ tn_cd (nd (6 * t + i)) (nd (6 * t + i + 1)) = c
noncomputable def tn_tk (bw pr ln nd : Nat → Nat) (q : Int32) (p c : Nat) : Nat := tn_sm (fun t => tn_q (nI t ≠ q ∧ pr t ≤ p ∧ tn_ov ln nd t c) (bw t)) 8
noncomputable def tn_ld (bw ln nd : Nat → Nat) (c : Nat) : Nat := tn_sm (fun t => tn_q (tn_ov ln nd t c) (bw t)) 8
theorem tn_tk_le {bw pr ln nd : Nat → Nat} (hb : ∀ t, bw t ≤ 100) (q : Int32) (p c : Nat) : tn_tk bw pr ln nd q p c ≤ 800 := tn_sm_bd (n := 8) (b := 100) fun i _ => Nat.le_trans tn_q_le (hb i)
theorem tn_ld_le {bw ln nd : Nat → Nat} (hb : ∀ t, bw t ≤ 100) (c : Nat) : tn_ld bw ln nd c ≤ 800 := tn_sm_bd (n := 8) (b := 100) fun i _ => Nat.le_trans tn_q_le (hb i)
theorem tn_ne_m1 {t : Nat} (h : t < 2 ^ 31) : nI t ≠ -1 := by
  intro z
  have a := congrArg Int32.toInt z
  rw [nI_toInt h, show (-1 : Int32).toInt = -1 from by decide] at a
  omega
theorem tn_tk_ld {bw pr ln nd : Nat → Nat} (hp : ∀ t, pr t ≤ 3) (c : Nat) : tn_tk bw pr ln nd (-1) 3 c = tn_ld bw ln nd c :=
  tn_sm_eq fun t ht => tn_q_iff ⟨fun h => h.2.2, fun h => ⟨tn_ne_m1 (by omega), hp t, h⟩⟩
def tn_bt (x : Int64) (c : Nat) : Prop := ((x >>> ((nI c).toInt64 &&& 63)) &&& 1) = 1
theorem tn_and1 (v : BitVec 64) : v &&& 1#64 = 1#64 ↔ v.getLsbD 0 = true := by
  constructor
  · intro h
    have a := congrArg (fun z => BitVec.getLsbD z 0) h
    simpa using a
  · intro h
    apply BitVec.eq_of_getLsbD_eq
    intro i hi
    by_cases z : i = 0
    · subst z
      simp only [BitVec.getLsbD_and, h, Bool.true_and]
    · have e : (1#64).getLsbD i = false := by simp [z]
      simp only [BitVec.getLsbD_and, e, Bool.and_false]
theorem tn_bt_iff (x : Int64) {c : Nat} (hc : c < 64) : tn_bt x c ↔ x.toBitVec.getLsbD c = true := by
  unfold tn_bt
  rw [wb_c c hc, ← Int64.toBitVec_inj, Int64.toBitVec_and, Int64.toBitVec_shiftRight, wb_tb]
  show (x.toBitVec.sshiftRight ((BitVec.ofNat 64 c).smod 64).toNat) &&& 1#64 = 1#64 ↔ _
  rw [wb_sm c hc, BitVec.toNat_ofNat, Nat.mod_eq_of_lt (by omega), tn_and1, BitVec.getLsbD_sshiftRight]
  simp [hc]
theorem tn_bt_0 {c : Nat} (hc : c < 64) : ¬ tn_bt 0 c := by
  rw [tn_bt_iff 0 hc]
  simp
theorem tn_bt_or (x : Int64) {c d : Nat} (hc : c < 64) (hd : d < 64) : tn_bt (x ||| ((1 : Int64) <<< ((nI d).toInt64 &&& 63))) c ↔ tn_bt x c ∨ d = c := by
  rw [tn_bt_iff _ hc, tn_bt_iff _ hc, wb_c d hd, Int64.toBitVec_or, Int64.toBitVec_shiftLeft, wb_tb, wb_sm d hd]
  show ((x.toBitVec ||| (1#64 <<< (BitVec.ofNat 64 d).toNat)).getLsbD c = true) ↔ _
  rw [BitVec.toNat_ofNat, Nat.mod_eq_of_lt (by omega), BitVec.getLsbD_or, BitVec.getLsbD_shiftLeft]
  simp only [hc, decide_true, Bool.true_and, Bool.or_eq_true, Bool.and_eq_true, Bool.not_eq_true', decide_eq_false_iff_not]
  constructor
  · rintro (h | ⟨h1, h2⟩)
    · exact Or.inl h
    · have : c - d = 0 := by
        rcases Nat.eq_zero_or_pos (c - d) with z | z
        · exact z
        · simp [show c - d ≠ 0 by omega] at h2
      exact Or.inr (by omega)
  · rintro (h | h)
    · exact Or.inl h
    · subst h
      exact Or.inr ⟨by omega, by simp⟩
theorem tn_le1 {a i : Nat} (ha : a < 2 ^ 30) (hi : i < 2 ^ 30) : (nI a - 1 ≤ nI i) ↔ a ≤ i + 1 := by
  rw [show (1 : Int32) = nI 1 from rfl, Int32.le_iff_toInt_le, pk_sub_toInt ha (by decide), nI_toInt (by omega)]
  omega
theorem tn_i8 {i : Nat} (h : i < 8) : ¬ (8 : Int32) ≤ nI i := nI_ge (b := 8) h (by decide)
theorem tn_i36 {i : Nat} (h : i < 36) : ¬ (36 : Int32) ≤ nI i := nI_ge (b := 36) h (by decide)
theorem tn_i6 {i : Nat} (h : i < 6) : ¬ (6 : Int32) ≤ nI i := nI_ge (b := 6) h (by decide)
theorem tn_6 : ¬ (6 : Int32) = 0 := by decide
theorem tn_8 : ¬ (8 : Int32) = 0 := by decide
theorem tn_d6 {a : Nat} (h : a < 2 ^ 31) : nI a / 6 = nI (a / 6) := pk_div (d := 6) h (by decide) (by decide)
theorem tn_r6 {a : Nat} (h : a < 2 ^ 31) : nI a - nI a / 6 * 6 = nI (a % 6) := pk_rem (d := 6) h (by decide) (by decide)
theorem tn_d8 {a : Nat} (h : a < 2 ^ 31) : nI a / 8 = nI (a / 8) := pk_div (d := 8) h (by decide) (by decide)
theorem tn_r8 {a : Nat} (h : a < 2 ^ 31) : nI a - nI a / 8 * 8 = nI (a % 8) := pk_rem (d := 8) h (by decide) (by decide)
theorem tn_6ab (a b : Nat) : 6 * nI a + nI b = nI (6 * a + b) := by
  rw [show (6 : Int32) = nI 6 from rfl, pk_mul, nI_add]
theorem tn_cl {j : Nat} (f : Nat → Int32) (h : j < 2 ^ 31) : f (nI j).toNatClampNeg = f j := congrArg f (nI_clamp h)
theorem tn_clL {j : Nat} (f : Nat → Int64) (h : j < 2 ^ 31) : f (nI j).toNatClampNeg = f j := congrArg f (nI_clamp h)
theorem tn_v8 {j : Nat} (h : j < 8) : vp_in (nI j) 8 := vp_in_nI h (by decide)
theorem tn_v6 {j : Nat} (h : j < 6) : vp_in (nI j) 6 := vp_in_nI h (by decide)
theorem tn_v36 {j : Nat} (h : j < 36) : vp_in (nI j) 36 := vp_in_nI h (by decide)
theorem tn_v48 {j : Nat} (h : j < 48) : vp_in (nI j) 48 := vp_in_nI h (by decide)
section
variable {fl le bl bc : Int32} {th up cl av st wa op rk fn pa be : Nat → Int32} {co ca en bw pr ln nd : Nat → Nat} {tl : Nat → Int64}
def tn_TL (tl : Nat → Int64) (ln nd : Nat → Nat) : Prop := ∀ t c, t < 8 → c < 36 → (tn_bt (tl t) c ↔ tn_ov ln nd t c)
theorem tn_x_isOver {post : Int32 → Prop} {t c : Nat} (ht : t < 8) (hc : c < 36) (hT : tn_TL tl ln nd) (h1 : tn_ov ln nd t c → post 1) (h0 : ¬ tn_ov ln nd t c → post 0) : wpX_isOver post (fl, th, up, tn_I co, tn_I ca, cl, st, tn_I en, tn_I bw, tn_I pr, av, tl, tn_I nd, tn_I ln, op, rk, fn) (nI t) (nI c) := by
  refine ⟨tn_v8 ht, ?_⟩
  rw [tn_clL tl (by omega)]
  exact ⟨fun h => h1 ((hT t c ht hc).1 h), fun h => h0 fun z => h ((hT t c ht hc).2 z)⟩
theorem tn_x_code {post : Int32 → Prop} {a b : Nat} (ha : a < 2 ^ 20) (hb : b < 2 ^ 20) (h : post (nI (tn_cd a b))) : wpX_codeBetween post (nI a) (nI b) := by
  unfold tn_cd at h
  refine pk_le b a (fun z => ?_) (fun z => ?_)
  · rw [if_neg (by omega)] at h
    rw [tn_6ab]; exact h
  · rw [if_pos z] at h
    rw [tn_6ab]; exact h
theorem tn_y_code {post : Int32 → Prop} {a b : Nat} (ha : a < 2 ^ 20) (hb : b < 2 ^ 20) (h : post (nI (tn_cd a b))) : wpY_codeOf post (le, bl, bc, th, tn_I co, tn_I ca, cl, up, wa, tn_I en, tn_I bw, tn_I pr, av, tn_I ln, tn_I nd, pa, be) (nI a) (nI b) := by
  unfold tn_cd at h
  refine pk_le b a (fun z => ?_) (fun z => ?_)
  · rw [if_neg (by omega)] at h
    rw [tn_6ab]; exact h
  · rw [if_pos z] at h
    rw [tn_6ab]; exact h
theorem tn_y_isOver {post : Int32 → Prop} {t c : Nat} (ht : t < 8) (hc : c < 36) (hl : ∀ t, ln t ≤ 6) (hn : ∀ i, nd i < 6) (h1 : tn_ov ln nd t c → post 1) (h0 : ¬ tn_ov ln nd t c → post 0) : wpY_isOver post (le, bl, bc, th, tn_I co, tn_I ca, cl, up, wa, tn_I en, tn_I bw, tn_I pr, av, tn_I ln, tn_I nd, pa, be) (nI t) (nI c) := by
  have hl6 := hl t
  have key : ∀ d i, ln t ≤ i + d → i + d ≤ 6 → (∀ j, j < i → j + 1 < ln t → tn_cd (nd (6 * t + j)) (nd (6 * t + j + 1)) ≠ c) → wY_isOver_2 post (nI t) (nI c) le bl bc th (tn_I co) (tn_I ca) cl up wa (tn_I en) (tn_I bw) (tn_I pr) av (tn_I ln) (tn_I nd) pa be (d + 1) (nI i) := by
    intro d
    induction d with
    | zero =>
      intro i hi hi6 hj
      refine ⟨tn_v8 ht, br_t ?_ (h0 ?_)⟩
      · rw [tn_cl (tn_I ln) (by omega)]
        exact (tn_le1 (by omega) (by omega)).2 (by omega)
      · rintro ⟨j, a, b⟩
        exact hj j (by omega) a b
    | succ d ih =>
      intro i hi hi6 hj
      refine ⟨tn_v8 ht, ?_⟩
      rw [tn_cl (tn_I ln) (by omega)]
      by_cases z : ln t ≤ i + 1
      · refine br_t ((tn_le1 (by omega) (by omega)).2 z) (h0 ?_)
        rintro ⟨j, a, b⟩
        exact hj j (by omega) a b
      · refine br_f (fun y => z ((tn_le1 (by omega) (by omega)).1 y)) ?_
        rw [tn_6ab, nI_1]
        refine ⟨tn_v48 (by omega), tn_v48 (by omega), ?_⟩
        rw [tn_cl (tn_I nd) (by omega), tn_cl (tn_I nd) (by omega)]
        have a1 := hn (6 * t + i)
        have a2 := hn (6 * t + i + 1)
        refine tn_y_code (by omega) (by omega) ?_
        have lt := tn_cd_lt a1 a2
        refine pk_eq _ c (fun e => h1 ⟨i, by omega, e⟩) (fun e => ?_) rfl rfl (by omega) (by omega)
        refine nm_r (nI_1 i) (ih (i + 1) (by omega) (by omega) fun j hj1 hj2 => ?_)
        rcases Nat.lt_or_ge j i with y | y
        · exact hj j y hj2
        · have : j = i := by omega
          subst this
          exact e
  exact ⟨7, key 6 0 (by omega) (by omega) (fun j hj => absurd hj (Nat.not_lt_zero j))⟩
def tn_OP (th up cl : Nat → Int32) (a : Int32) (c : Nat) : Prop := th c ≠ 0 ∧ up c ≠ 0 ∧ (cl c &&& a) = 0
theorem tn_x_use {post : Int32 → Prop} {c : Nat} {a : Int32} (hc : c < 36) (h1 : tn_OP th up cl a c → post 1) (h0 : ¬ tn_OP th up cl a c → post 0) : wpX_isUsable post (fl, th, up, tn_I co, tn_I ca, cl, st, tn_I en, tn_I bw, tn_I pr, av, tl, tn_I nd, tn_I ln, op, rk, fn) (nI c) a := by
  have v := tn_v36 hc
  unfold wpX_isUsable
  dsimp only
  rw [nI_clamp (show c < 2 ^ 31 by omega)]
  refine ⟨v, br_c (fun z => h0 fun y => y.1 z) (fun z => ⟨v, br_c (fun z2 => h0 fun y => y.2.1 z2) (fun z2 => ⟨v, br_c (fun z3 => h1 ⟨z, z2, z3⟩) (fun z3 => h0 fun y => z3 y.2.2)⟩)⟩)⟩
theorem tn_y_use {post : Int32 → Prop} {c : Nat} {a : Int32} (hc : c < 36) (h1 : tn_OP th up cl a c → post 1) (h0 : ¬ tn_OP th up cl a c → post 0) : wpY_isOpen post (le, bl, bc, th, tn_I co, tn_I ca, cl, up, wa, tn_I en, tn_I bw, tn_I pr, av, tn_I ln, tn_I nd, pa, be) (nI c) a := by
  have v := tn_v36 hc
  unfold wpY_isOpen
  dsimp only
  rw [nI_clamp (show c < 2 ^ 31 by omega)]
  refine ⟨v, br_c (fun z => h0 fun y => y.1 z) (fun z => ⟨v, br_c (fun z2 => h0 fun y => y.2.1 z2) (fun z2 => ⟨v, br_c (fun z3 => h1 ⟨z, z2, z3⟩) (fun z3 => h0 fun y => z3 y.2.2)⟩)⟩)⟩
theorem tn_x_load {post : Int32 → Prop} {c : Nat} (hc : c < 36) (hT : tn_TL tl ln nd) (h : post (nI (tn_ld bw ln nd c))) : wpX_loadOf post (fl, th, up, tn_I co, tn_I ca, cl, st, tn_I en, tn_I bw, tn_I pr, av, tl, tn_I nd, tn_I ln, op, rk, fn) (nI c) := by
  have key : ∀ d i, i + d = 8 → wX_loadOf_4 post (nI c) fl th up (tn_I co) (tn_I ca) cl st (tn_I en) (tn_I bw) (tn_I pr) av tl (tn_I nd) (tn_I ln) op rk fn (d + 1) (nI (tn_sm (fun t => tn_q (tn_ov ln nd t c) (bw t)) i)) (nI i) := by
    intro d
    induction d with
    | zero =>
      intro i hi
      have : i = 8 := by omega
      subst this
      exact br_t (by decide) h
    | succ d ih =>
      intro i hi
      refine br_f (tn_i8 (by omega)) (tn_x_isOver (by omega) hc hT (fun z => br_f (by decide) ⟨tn_v8 (by omega), nm_r ?_ (nm_r (nI_1 i) (ih (i + 1) (by omega)))⟩) (fun z => br_t rfl (nm_r (nI_1 i) ?_)))
      · rw [tn_cl (tn_I bw) (by omega), nI_add]
        simp only [tn_sm, tn_q_t z]
      · have q := ih (i + 1) (by omega)
        simp only [tn_sm, tn_q_f z, Nat.add_zero] at q
        exact q
  exact ⟨9, key 8 0 (by omega)⟩
theorem tn_subsub (a b c : Nat) : nI a - nI b - nI c = nI a - nI (b + c) := by
  rw [← nI_add]
  generalize nI a = x; generalize nI b = y; generalize nI c = z
  grind
theorem tn_x_room {post : Int32 → Prop} {c p : Nat} {q : Int32} (hc : c < 36) (hp : p < 2 ^ 20) (hpr : ∀ t, pr t ≤ 3) (hT : tn_TL tl ln nd) (h : post (nI (ca c) - nI (tn_tk bw pr ln nd q p c))) : wpX_roomWithout post (fl, th, up, tn_I co, tn_I ca, cl, st, tn_I en, tn_I bw, tn_I pr, av, tl, tn_I nd, tn_I ln, op, rk, fn) (nI c) (nI p) q := by
  have key : ∀ d i, i + d = 8 → wX_roomWithout_11 post (nI c) (nI p) q fl th up (tn_I co) (tn_I ca) cl st (tn_I en) (tn_I bw) (tn_I pr) av tl (tn_I nd) (tn_I ln) op rk fn (d + 1) (nI (ca c) - nI (tn_sm (fun t => tn_q (nI t ≠ q ∧ pr t ≤ p ∧ tn_ov ln nd t c) (bw t)) i)) (nI i) := by
    intro d
    induction d with
    | zero =>
      intro i hi
      have : i = 8 := by omega
      subst this
      exact br_t (by decide) h
    | succ d ih =>
      intro i hi
      have ihi := ih (i + 1) (by omega)
      have no : ¬ (nI i ≠ q ∧ pr i ≤ p ∧ tn_ov ln nd i c) → wX_roomWithout_11 post (nI c) (nI p) q fl th up (tn_I co) (tn_I ca) cl st (tn_I en) (tn_I bw) (tn_I pr) av tl (tn_I nd) (tn_I ln) op rk fn (d + 1) (nI (ca c) - nI (tn_sm (fun t => tn_q (nI t ≠ q ∧ pr t ≤ p ∧ tn_ov ln nd t c) (bw t)) i)) (nI (i + 1)) := by
        intro z
        simp only [tn_sm, tn_q_f z, Nat.add_zero] at ihi
        exact ihi
      refine br_f (tn_i8 (by omega)) ⟨tn_v8 (by omega), ?_⟩
      rw [tn_clL tl (by omega)]
      refine ⟨fun z => ?_, fun z => ?_⟩
      · have zo : tn_ov ln nd i c := (hT i c (by omega) hc).1 z
        refine br_f (by decide) (br_c (fun e => nm_r (nI_1 i) (no fun y => y.1 e)) fun e => ⟨tn_v8 (by omega), ?_⟩)
        rw [tn_cl (tn_I pr) (by omega), tn_cl (tn_I bw) (by omega)]
        have := hpr i
        refine pk_lt p (pr i) (fun l => nm_r (nI_1 i) (no fun y => by have := y.2.1; omega)) (fun l => ⟨tn_v8 (by omega), nm_r (tn_subsub _ _ _) (nm_r (nI_1 i) ?_)⟩)
        simp only [tn_sm, tn_q_t (show nI i ≠ q ∧ pr i ≤ p ∧ tn_ov ln nd i c from ⟨e, l, zo⟩)] at ihi
        exact ihi
      · exact br_t rfl (nm_r (nI_1 i) (no fun y => z ((hT i c (by omega) hc).2 y.2.2)))
  refine ⟨tn_v36 hc, nm_r (tn_cl (tn_I ca) (by omega)) ⟨9, ?_⟩⟩
  have k := key 8 0 (by omega)
  have e : nI (ca c) - nI (tn_sm (fun t => tn_q (nI t ≠ q ∧ pr t ≤ p ∧ tn_ov ln nd t c) (bw t)) 0) = nI (ca c) := by
    show nI (ca c) - 0 = _
    exact Int32.sub_zero _
  rw [e] at k
  exact k
theorem tn_y_taken {post : Int32 → Prop} {c p : Nat} {q : Int32} (hc : c < 36) (hp : p < 2 ^ 20) (hpr : ∀ t, pr t ≤ 3) (hl : ∀ t, ln t ≤ 6) (hn : ∀ i, nd i < 6) (h : post (nI (tn_tk bw pr ln nd q p c))) : wpY_taken post (le, bl, bc, th, tn_I co, tn_I ca, cl, up, wa, tn_I en, tn_I bw, tn_I pr, av, tn_I ln, tn_I nd, pa, be) (nI c) (nI p) q := by
  have key : ∀ d i, i + d = 8 → wY_taken_6 post (nI c) (nI p) q le bl bc th (tn_I co) (tn_I ca) cl up wa (tn_I en) (tn_I bw) (tn_I pr) av (tn_I ln) (tn_I nd) pa be (d + 1) (nI (tn_sm (fun t => tn_q (nI t ≠ q ∧ pr t ≤ p ∧ tn_ov ln nd t c) (bw t)) i)) (nI i) := by
    intro d
    induction d with
    | zero =>
      intro i hi
      have : i = 8 := by omega
      subst this
      exact br_t (by decide) h
    | succ d ih =>
      intro i hi
      have ihi := ih (i + 1) (by omega)
      have no : ¬ (nI i ≠ q ∧ pr i ≤ p ∧ tn_ov ln nd i c) → wY_taken_6 post (nI c) (nI p) q le bl bc th (tn_I co) (tn_I ca) cl up wa (tn_I en) (tn_I bw) (tn_I pr) av (tn_I ln) (tn_I nd) pa be (d + 1) (nI (tn_sm (fun t => tn_q (nI t ≠ q ∧ pr t ≤ p ∧ tn_ov ln nd t c) (bw t)) i)) (nI (i + 1)) := by
        intro z
        simp only [tn_sm, tn_q_f z, Nat.add_zero] at ihi
        exact ihi
      refine br_f (tn_i8 (by omega)) (br_c (fun e => nm_r (nI_1 i) (no fun y => y.1 e)) fun e => ⟨tn_v8 (by omega), ?_⟩)
      rw [tn_cl (tn_I pr) (by omega)]
      have := hpr i
      refine pk_lt p (pr i) (fun l => nm_r (nI_1 i) (no fun y => by have := y.2.1; omega)) (fun l => ?_)
      refine tn_y_isOver (by omega) hc hl hn (fun zo => br_f (by decide) ⟨tn_v8 (by omega), ?_⟩) (fun zo => br_t rfl (nm_r (nI_1 i) (no fun y => zo y.2.2)))
      rw [tn_cl (tn_I bw) (by omega)]
      refine nm_r (nI_add _ _) (nm_r (nI_1 i) ?_)
      simp only [tn_sm, tn_q_t (show nI i ≠ q ∧ pr i ≤ p ∧ tn_ov ln nd i c from ⟨e, l, zo⟩)] at ihi
      exact ihi
  exact ⟨9, key 8 0 (by omega)⟩
theorem tn_y_room {post : Int32 → Prop} {c p : Nat} {q : Int32} (hc : c < 36) (hp : p < 2 ^ 20) (hpr : ∀ t, pr t ≤ 3) (hl : ∀ t, ln t ≤ 6) (hn : ∀ i, nd i < 6) (h : post (nI (ca c) - nI (tn_tk bw pr ln nd q p c))) : wpY_roomOf post (le, bl, bc, th, tn_I co, tn_I ca, cl, up, wa, tn_I en, tn_I bw, tn_I pr, av, tn_I ln, tn_I nd, pa, be) (nI c) (nI p) q := by
  refine ⟨tn_v36 hc, tn_y_taken hc hp hpr hl hn ?_⟩
  rw [tn_cl (tn_I ca) (by omega)]
  exact h
end
end
section
/-! X's search for a path -/
theorem tn_room0 {a b : Nat} (ha : a < 2 ^ 30) (hb : b < 2 ^ 30) : (nI a - nI b ≤ 0) ↔ a ≤ b := by
  rw [Int32.le_iff_toInt_le, pk_sub_toInt ha hb, show (0 : Int32).toInt = 0 from by decide]
  omega
noncomputable def tn_or (th up cl : Nat → Int32) (a : Int32) (ca bw pr ln nd : Nat → Nat) (q : Int32) (p c : Nat) : Nat := tn_q (tn_OP th up cl a c) (ca c - tn_tk bw pr ln nd q p c)
def tn_EU (th up cl : Nat → Int32) (a : Int32) (ca bw pr ln nd : Nat → Nat) (q : Int32) (p b c : Nat) : Prop := c < 36 ∧ tn_OP th up cl a c ∧ b + tn_tk bw pr ln nd q p c ≤ ca c
def tn_TH (th : Nat → Int32) : Prop := ∀ c, th c ≠ 0 → c < 36 ∧ c / 6 < c % 6
section
variable {fl le bl bc : Int32} {th up cl av st wa op rk fn pa be : Nat → Int32} {co ca en bw pr ln nd : Nat → Nat} {tl : Nat → Int64}
theorem tn_EU_gd {a q : Int32} {p b : Nat} (h : tn_TH th) : tn_Gd (tn_EU th up cl a ca bw pr ln nd q p b) := fun c e => h c e.2.1.1
theorem tn_or_EU {a q : Int32} {p b c : Nat} (hca : ∀ c, ca c ≤ 100) (hb : 1 ≤ b) (hb2 : b ≤ 100) (hc : c < 36) (e : op c = nI (tn_or th up cl a ca bw pr ln nd q p c)) : op c < nI b ↔ ¬ tn_EU th up cl a ca bw pr ln nd q p b c := by
  have h1 := hca c
  have h2 : tn_or th up cl a ca bw pr ln nd q p c ≤ ca c := Nat.le_trans tn_q_le (Nat.sub_le _ _)
  rw [e, nI_ltI (by omega) (by omega)]
  unfold tn_or tn_EU
  rcases Classical.em (tn_OP th up cl a c) with o | o
  · rw [tn_q_t o]
    constructor
    · intro l z
      have := z.2.2
      omega
    · intro l
      rcases Nat.lt_or_ge (ca c - tn_tk bw pr ln nd q p c) b with y | y
      · exact y
      · exact absurd ⟨hc, o, by omega⟩ l
  · rw [tn_q_f o]
    exact ⟨fun _ z => o z.2.1, fun _ => hb⟩
theorem tn_x_rooms {post : SX → Prop} {p : Nat} {a q : Int32} (hp : p < 2 ^ 20) (hpr : ∀ t, pr t ≤ 3) (hca : ∀ c, ca c ≤ 100) (hbw : ∀ t, bw t ≤ 100) (hT : tn_TL tl ln nd)
    (h : ∀ op', (∀ c, c < 36 → op' c = nI (tn_or th up cl a ca bw pr ln nd q p c)) → post (fl, th, up, tn_I co, tn_I ca, cl, st, tn_I en, tn_I bw, tn_I pr, av, tl, tn_I nd, tn_I ln, op', rk, fn)) : wpX_openRooms post (fl, th, up, tn_I co, tn_I ca, cl, st, tn_I en, tn_I bw, tn_I pr, av, tl, tn_I nd, tn_I ln, op, rk, fn) (nI p) a q := by
  have key : ∀ d i op, i + d = 36 → (∀ c, c < i → op c = nI (tn_or th up cl a ca bw pr ln nd q p c)) → wX_openRooms_3 post (nI p) a q fl (d + 1) (nI i) th up (tn_I co) (tn_I ca) cl st (tn_I en) (tn_I bw) (tn_I pr) av tl (tn_I nd) (tn_I ln) op rk fn := by
    intro d
    induction d with
    | zero =>
      intro i op hi ho
      have : i = 36 := by omega
      subst this
      exact br_t (by decide) (h op ho)
    | succ d ih =>
      intro i op hi ho
      have nx : ∀ op' : Nat → Int32, (∀ c, c ≠ i → op' c = op c) → op' i = nI (tn_or th up cl a ca bw pr ln nd q p i) → wX_openRooms_3 post (nI p) a q fl (d + 1) (nI (i + 1)) th up (tn_I co) (tn_I ca) cl st (tn_I en) (tn_I bw) (tn_I pr) av tl (tn_I nd) (tn_I ln) op' rk fn := by
        intro op' h1 h2
        refine ih (i + 1) op' (by omega) fun c hc => ?_
        by_cases z : c = i
        · subst z; exact h2
        · rw [h1 c z]; exact ho c (by omega)
      refine br_f (tn_i36 (by omega)) ⟨tn_v36 (by omega), nm_r (congrArg (fun z => upd op z 0) (nI_clamp (by omega))) ?_⟩
      refine tn_x_use (by omega) (fun o => br_f (by decide) (tn_x_room (by omega) hp hpr hT ?_)) (fun o => br_t rfl (nm_r (nI_1 i) (nx _ (fun c hc => pk_un hc) ?_)))
      · have l1 := hca i
        have l2 := tn_tk_le (pr := pr) (ln := ln) (nd := nd) hbw q p i
        by_cases z : ca i ≤ tn_tk bw pr ln nd q p i
        · refine br_t ((tn_room0 (by omega) (by omega)).2 z) ⟨tn_v36 (by omega), nm_r (congrArg (fun z => upd (upd op i 0) z 0) (nI_clamp (by omega))) (nm_r (nI_1 i) (nx _ (fun c hc => by rw [pk_un hc, pk_un hc]) ?_))⟩
          rw [pk_us, tn_or, tn_q_t o, show ca i - tn_tk bw pr ln nd q p i = 0 by omega]
          rfl
        · refine br_f (fun y => z ((tn_room0 (by omega) (by omega)).1 y)) ⟨tn_v36 (by omega), nm_r (congrArg (fun z => upd (upd op i 0) z _) (nI_clamp (by omega))) (nm_r (nI_1 i) (nx _ (fun c hc => by rw [pk_un hc, pk_un hc]) ?_))⟩
          rw [pk_us, tn_or, tn_q_t o, pk_sub (by omega)]
      · rw [pk_us, tn_or, tn_q_f o]
        rfl
  exact ⟨37, key 36 0 op (by omega) (fun c hc => absurd hc (Nat.not_lt_zero c))⟩
theorem tn_rx_id {a b s : Nat} {k : Nat → Nat} (h : k a ≤ k b + s) : tn_rx a b s k = k := by
  funext i
  unfold tn_rx
  rw [if_neg (fun z => by have := z.2; omega)]
theorem tn_rx_upd {a b s : Nat} {k : Nat → Nat} {rk : Nat → Int32} (hb : b < 6) (h : k b + s < k a) (e : ∀ i, i < 6 → rk i = nI (k i)) : ∀ i, i < 6 → upd rk a (rk b + nI s) i = nI (tn_rx a b s k i) := by
  intro i hi
  unfold tn_rx
  by_cases z : i = a
  · subst z
    rw [pk_us, if_pos ⟨rfl, h⟩, e b hb, nI_add]
  · rw [pk_un z, if_neg (fun y => z y.1), e i hi]
theorem tn_x_low {post : SX → Prop} {c : Nat} {k : Nat → Nat} (hc : c < 36) (hco : ∀ c, co c ≤ 20) (hk : ∀ i, i < 6 → k i ≤ 1000000) (e : ∀ i, i < 6 → rk i = nI (k i))
    (h : ∀ rk' : Nat → Int32, (∀ i, i < 6 → rk' i = nI (tn_rx (c % 6) (c / 6) (tn_w co c) (tn_rx (c / 6) (c % 6) (tn_w co c) k) i)) → post (fl, th, up, tn_I co, tn_I ca, cl, st, tn_I en, tn_I bw, tn_I pr, av, tl, tn_I nd, tn_I ln, op, rk', fn)) : wpX_lowerRanks post (fl, th, up, tn_I co, tn_I ca, cl, st, tn_I en, tn_I bw, tn_I pr, av, tl, tn_I nd, tn_I ln, op, rk, fn) (nI c) := by
  have hb := hco c
  have ha : c / 6 < 6 := by omega
  have hm : c % 6 < 6 := by omega
  have s1 : tn_w co c ≤ 161 := by unfold tn_w; omega
  have es : tn_I co (nI c).toNatClampNeg * 8 + 1 = nI (tn_w co c) := by
    rw [tn_cl (tn_I co) (by omega), show (8 : Int32) = nI 8 from rfl, pk_mul, nI_1]
    unfold tn_w
    exact congrArg nI (by omega)
  have second : ∀ (rk : Nat → Int32) (k1 : Nat → Nat), (∀ i, i < 6 → k1 i ≤ 1000000) → (∀ i, i < 6 → rk i = nI (k1 i)) → k1 = tn_rx (c / 6) (c % 6) (tn_w co c) k → wX_lowerRanks_56 post (nI (c / 6)) (nI (c % 6)) (nI (tn_w co c)) fl th up (tn_I co) (tn_I ca) cl st (tn_I en) (tn_I bw) (tn_I pr) av tl (tn_I nd) (tn_I ln) op rk fn := by
    intro rk k1 hk1 e1 ek
    have b1 := hk1 _ ha
    have b2 := hk1 _ hm
    refine ⟨tn_v6 ha, tn_v6 hm, ?_⟩
    rw [nI_clamp (show c / 6 < 2 ^ 31 by omega), nI_clamp (show c % 6 < 2 ^ 31 by omega)]
    refine pk_le (k1 (c % 6)) (k1 (c / 6) + tn_w co c) (fun z => ?_) (fun z => ?_) (e1 _ hm) (by rw [e1 _ ha, nI_add]) (by omega) (by omega)
    · refine h rk fun i hi => ?_
      rw [← ek, tn_rx_id z, e1 i hi]
    · refine ⟨tn_v6 ha, tn_v6 hm, fun y ey => ?_⟩
      subst ey
      refine h _ fun i hi => ?_
      rw [← ek]
      exact tn_rx_upd ha z e1 i hi
  refine ⟨tn_6, nm_r (tn_d6 (by omega)) ⟨tn_6, nm_r (tn_r6 (by omega)) ⟨tn_v36 hc, nm_r es ⟨tn_v6 hm, tn_v6 ha, ?_⟩⟩⟩⟩
  have b1 := hk _ ha
  have b2 := hk _ hm
  rw [nI_clamp (show c / 6 < 2 ^ 31 by omega), nI_clamp (show c % 6 < 2 ^ 31 by omega)]
  refine pk_le (k (c / 6)) (k (c % 6) + tn_w co c) (fun z => ?_) (fun z => ?_) (e _ ha) (by rw [e _ hm, nI_add]) (by omega) (by omega)
  · exact second rk k hk e (tn_rx_id z).symm
  · refine ⟨tn_v6 hm, tn_v6 ha, fun y ey => ?_⟩
    subst ey
    exact second _ (tn_rx (c / 6) (c % 6) (tn_w co c) k) (fun i hi => Nat.le_trans (tn_rx_le _ _ _ _ i) (hk i hi)) (tn_rx_upd hm z e) rfl
theorem tn_x_rank {post : SX → Prop} {E : Nat → Prop} {g b : Nat} (hE : tn_Gd E) (hop : ∀ c, c < 36 → (op c < nI b ↔ ¬ E c)) (hco : ∀ c, co c ≤ 20) (hg : g < 6)
    (h : ∀ (rk' : Nat → Int32) (k : Nat → Nat), (∀ i, i < 6 → rk' i = nI (k i)) → tn_RK E (tn_w co) g 1000000 k → post (fl, th, up, tn_I co, tn_I ca, cl, st, tn_I en, tn_I bw, tn_I pr, av, tl, tn_I nd, tn_I ln, op, rk', fn)) : wpX_rankNodes post (fl, th, up, tn_I co, tn_I ca, cl, st, tn_I en, tn_I bw, tn_I pr, av, tl, tn_I nd, tn_I ln, op, rk, fn) (nI g) (nI b) := by
  have inner : ∀ (J : Int32 → Int32 → (Nat → Int32) → (Nat → Int32) → (Nat → Int32) → (Nat → Int32) → (Nat → Int32) → (Nat → Int32) → (Nat → Int32) → (Nat → Int32) → (Nat → Int32) → (Nat → Int32) → (Nat → Int64) → (Nat → Int32) → (Nat → Int32) → (Nat → Int32) → (Nat → Int32) → (Nat → Int32) → Prop) (r : Nat),
      (∀ (rk' : Nat → Int32) (k : Nat → Nat), (∀ i, i < 6 → rk' i = nI (k i)) → tn_LI E (tn_w co) g 1000000 (r + 1) 0 k → J (nI (r + 2)) fl th up (tn_I co) (tn_I ca) cl st (tn_I en) (tn_I bw) (tn_I pr) av tl (tn_I nd) (tn_I ln) op rk' fn) →
      ∀ d i (rk : Nat → Int32) (k : Nat → Nat), i + d = 36 → (∀ i, i < 6 → rk i = nI (k i)) → tn_LI E (tn_w co) g 1000000 r i k → wX_rankNodes_42 post J (nI b) (nI (r + 1)) (d + 1) (nI i) fl th up (tn_I co) (tn_I ca) cl st (tn_I en) (tn_I bw) (tn_I pr) av tl (tn_I nd) (tn_I ln) op rk fn := by
    intro J r hJ d
    induction d with
    | zero =>
      intro i rk k hi e L
      have : i = 36 := by omega
      subst this
      exact br_t (by decide) (nm_r (nI_1 (r + 1)) (hJ rk k e (tn_LI_next hE L)))
    | succ d ih =>
      intro i rk k hi e L
      refine br_f (tn_i36 (by omega)) ⟨tn_v36 (by omega), ?_⟩
      rw [tn_cl op (by omega)]
      refine br_c (fun z => nm_r (nI_1 i) (ih (i + 1) rk k (by omega) e (tn_LI_skip L ((hop i (by omega)).1 z)))) (fun z => ?_)
      have ei : E i := Classical.byContradiction fun y => z ((hop i (by omega)).2 y)
      refine tn_x_low (by omega) hco L.1.2.1 e fun rk' e' => nm_r (nI_1 i) ?_
      exact ih (i + 1) rk' _ (by omega) e' (tn_LI_step hE L ei)
  have outer : ∀ d r (rk : Nat → Int32) (k : Nat → Nat), r + d = 5 → (∀ i, i < 6 → rk i = nI (k i)) → tn_LI E (tn_w co) g 1000000 r 0 k → wX_rankNodes_33 post (nI b) (d + 1) (nI (r + 1)) fl th up (tn_I co) (tn_I ca) cl st (tn_I en) (tn_I bw) (tn_I pr) av tl (tn_I nd) (tn_I ln) op rk fn := by
    intro d
    induction d with
    | zero =>
      intro r rk k hr e L
      have : r = 5 := by omega
      subst this
      exact br_t (by decide) (h rk k e (tn_LI_fin tn_w_1 L))
    | succ d ih =>
      intro r rk k hr e L
      exact br_f (tn_i6 (by omega)) ⟨37, inner _ r (fun rk' k' e' L' => ih (r + 1) rk' k' (by omega) e' L') 36 0 rk k (by omega) e L⟩
  have first : ∀ d i (rk : Nat → Int32), i + d = 6 → (∀ j, j < i → rk j = nI (if j = g then 0 else 1000000)) → wX_rankNodes_2 post (nI g) (nI b) fl (d + 1) (nI i) th up (tn_I co) (tn_I ca) cl st (tn_I en) (tn_I bw) (tn_I pr) av tl (tn_I nd) (tn_I ln) op rk fn := by
    intro d
    induction d with
    | zero =>
      intro i rk hi e
      have : i = 6 := by omega
      subst this
      exact br_t (by decide) ⟨6, outer 5 0 rk (fun j => if j = g then 0 else 1000000) (by omega) e (tn_LI_0 (if_pos rfl) (fun v _ hv => if_neg hv))⟩
    | succ d ih =>
      intro i rk hi e
      have nx : ∀ x, x = nI (if i = g then 0 else 1000000) → wX_rankNodes_2 post (nI g) (nI b) fl (d + 1) (nI (i + 1)) th up (tn_I co) (tn_I ca) cl st (tn_I en) (tn_I bw) (tn_I pr) av tl (tn_I nd) (tn_I ln) op (upd rk i x) fn := by
        intro x hx
        refine ih (i + 1) _ (by omega) fun j hj => ?_
        by_cases z : j = i
        · subst z; rw [pk_us]; exact hx
        · rw [pk_un z]; exact e j (by omega)
      refine br_f (tn_i6 (by omega)) (pk_eq i g (fun z => ⟨tn_v6 (by omega), nm_r (congrArg (fun z => upd rk z 0) (nI_clamp (by omega))) (nm_r (nI_1 i) (nx 0 (by rw [if_pos z]; rfl)))⟩) (fun z => ⟨tn_v6 (by omega), nm_r (congrArg (fun z => upd rk z 1000000) (nI_clamp (by omega))) (nm_r (nI_1 i) (nx 1000000 (by rw [if_neg z]; rfl)))⟩))
  exact ⟨7, first 6 0 rk (by omega) (fun j hj => absurd hj (Nat.not_lt_zero j))⟩
theorem tn_x_fit {post : Int32 → SX → Prop} {t : Nat} (ht : t < 8) (hTH : tn_TH th) (hpr : ∀ t, pr t ≤ 3) (hca : ∀ c, ca c ≤ 100) (hbw : ∀ t, bw t ≤ 100) (hb1 : 1 ≤ bw t) (hco : ∀ c, co c ≤ 20) (hen : ∀ t, en t < 36) (hT : tn_TL tl ln nd)
    (h : ∀ (op' rk' : Nat → Int32) (k : Nat → Nat), (∀ c, c < 36 → (op' c < nI (bw t) ↔ ¬ tn_EU th up cl (av t) ca bw pr ln nd (nI t) (pr t) (bw t) c)) → (∀ i, i < 6 → rk' i = nI (k i)) → tn_RK (tn_EU th up cl (av t) ca bw pr ln nd (nI t) (pr t) (bw t)) (tn_w co) (en t % 6) 1000000 k →
      ((k (en t / 6) < 1000000 → post 1 (fl, th, up, tn_I co, tn_I ca, cl, st, tn_I en, tn_I bw, tn_I pr, av, tl, tn_I nd, tn_I ln, op', rk', fn)) ∧ (¬ k (en t / 6) < 1000000 → post 0 (fl, th, up, tn_I co, tn_I ca, cl, st, tn_I en, tn_I bw, tn_I pr, av, tl, tn_I nd, tn_I ln, op', rk', fn)))) : wpX_hasFitPath post (fl, th, up, tn_I co, tn_I ca, cl, st, tn_I en, tn_I bw, tn_I pr, av, tl, tn_I nd, tn_I ln, op, rk, fn) (nI t) := by
  have he := hen t
  have hp := hpr t
  have v := tn_v8 ht
  have hb2 := hbw t
  unfold wpX_hasFitPath
  dsimp only
  rw [nI_clamp (show t < 2 ^ 31 by omega)]
  refine ⟨v, v, tn_x_rooms (by omega) hpr hca hbw hT fun op' ho => ?_⟩
  refine ⟨v, tn_6, v, ?_⟩
  rw [tn_r6 (show en t < 2 ^ 31 by omega)]
  have hop := fun c (hc : c < 36) => tn_or_EU (th := th) (up := up) (cl := cl) (pr := pr) (ln := ln) (nd := nd) (bw := bw) (b := bw t) (a := av t) (q := nI t) (p := pr t) hca hb1 hb2 hc (ho c hc)
  refine tn_x_rank (tn_EU_gd hTH) hop hco (by omega) fun rk' k e K => ?_
  obtain ⟨p1, p0⟩ := h op' rk' k hop e K
  have kb := K.2.1 (en t / 6) (by omega)
  dsimp only
  refine ⟨v, tn_6, ?_⟩
  rw [tn_d6 (show en t < 2 ^ 31 by omega)]
  refine ⟨tn_v6 (by omega), ?_⟩
  rw [nI_clamp (show en t / 6 < 2 ^ 31 by omega)]
  exact pk_le 1000000 (k (en t / 6)) (fun z => p0 (by omega)) (fun z => p1 z) rfl (e _ (by omega)) (by omega) (by omega)
theorem tn_x_next {post : Int32 → Prop} {E : Nat → Prop} {s b : Nat} {k : Nat → Nat} (hop : ∀ c, c < 36 → (op c < nI b ↔ ¬ E c)) (hco : ∀ c, co c ≤ 20) (hs : s < 6) (hk : ∀ i, i < 6 → k i ≤ 1000000) (e : ∀ i, i < 6 → rk i = nI (k i))
    (hx : ∃ u, u < 6 ∧ E (tn_cd s u) ∧ k u + tn_w co (tn_cd s u) = k s)
    (h : ∀ u, u < 6 → E (tn_cd s u) → k u + tn_w co (tn_cd s u) = k s → (∀ v, v < 6 → E (tn_cd s v) → k v + tn_w co (tn_cd s v) = k s → u ≤ v) → post (nI u)) : wpX_nextOnBest post (fl, th, up, tn_I co, tn_I ca, cl, st, tn_I en, tn_I bw, tn_I pr, av, tl, tn_I nd, tn_I ln, op, rk, fn) (nI s) (nI b) := by
  have key : ∀ d i, i + d = 6 → (∀ j, j < i → ¬ (E (tn_cd s j) ∧ k j + tn_w co (tn_cd s j) = k s)) → wX_nextOnBest_2 post (nI s) (nI b) fl th up (tn_I co) (tn_I ca) cl st (tn_I en) (tn_I bw) (tn_I pr) av tl (tn_I nd) (tn_I ln) op rk fn (d + 1) (nI i) := by
    intro d
    induction d with
    | zero =>
      intro i hi hj
      obtain ⟨u, hu, e1, e2⟩ := hx
      exact absurd ⟨e1, e2⟩ (hj u (by omega))
    | succ d ih =>
      intro i hi hj
      have nx : ¬ (E (tn_cd s i) ∧ k i + tn_w co (tn_cd s i) = k s) → wX_nextOnBest_2 post (nI s) (nI b) fl th up (tn_I co) (tn_I ca) cl st (tn_I en) (tn_I bw) (tn_I pr) av tl (tn_I nd) (tn_I ln) op rk fn (d + 1) (nI (i + 1)) := fun z => ih (i + 1) (by omega) fun j hj2 => by
        by_cases y : j = i
        · subst y; exact z
        · exact hj j (by omega)
      have c36 := tn_cd_lt hs (show i < 6 by omega)
      have hc20 := hco (tn_cd s i)
      have es : tn_I co (nI (tn_cd s i)).toNatClampNeg * 8 + 1 = nI (tn_w co (tn_cd s i)) := by
        rw [tn_cl (tn_I co) (by omega), show (8 : Int32) = nI 8 from rfl, pk_mul, nI_1]
        unfold tn_w
        exact congrArg nI (by omega)
      refine br_f (tn_i6 (by omega)) (tn_x_code (by omega) (by omega) ⟨tn_v36 c36, nm_r es ⟨tn_v36 c36, ?_⟩⟩)
      rw [tn_cl op (by omega)]
      refine br_c (fun z => nm_r (nI_1 i) (nx fun y => (hop _ c36).1 z y.1)) (fun z => ?_)
      have ei : E (tn_cd s i) := Classical.byContradiction fun y => z ((hop _ c36).2 y)
      refine ⟨tn_v6 (by omega), tn_v6 hs, ?_⟩
      have s1 : tn_w co (tn_cd s i) ≤ 161 := by unfold tn_w; omega
      have k1 := hk i (by omega)
      have k2 := hk s hs
      rw [tn_cl rk (by omega), tn_cl rk (by omega)]
      refine pk_eq (k i + tn_w co (tn_cd s i)) (k s) (fun y => h i (by omega) ei y fun v hv e1 e2 => ?_) (fun y => nm_r (nI_1 i) (nx fun z => y z.2)) (by rw [e i (by omega), nI_add]) (e s hs) (by omega) (by omega)
      rcases Nat.lt_or_ge v i with l | l
      · exact absurd ⟨e1, e2⟩ (hj v l)
      · exact l
  exact ⟨7, key 6 0 (by omega) (fun j hj => absurd hj (Nat.not_lt_zero j))⟩
theorem tn_TR_ext {E : Nat → Prop} {w k : Nat → Nat} {s m u : Nat} {f : Nat → Nat} (h : tn_TR E w k s f m) (hu : u < 6) (h1 : E (tn_cd (f m) u)) (h2 : k u + w (tn_cd (f m) u) = k (f m)) (h3 : ∀ v, v < 6 → E (tn_cd (f m) v) → k v + w (tn_cd (f m) v) = k (f m) → u ≤ v) : tn_TR E w k s (tn_up f (m + 1) u) (m + 1) := by
  refine ⟨by rw [tn_up_n (by omega)]; exact h.1, fun i hi => ?_, fun i hi => ?_⟩
  · by_cases z : i = m + 1
    · subst z; rw [tn_up_s]; exact hu
    · rw [tn_up_n z]; exact h.2.1 i (by omega)
  · by_cases z : i = m
    · subst z
      rw [tn_up_s, tn_up_n (by omega)]
      exact ⟨h1, h2, h3⟩
    · rw [tn_up_n (show i ≠ m + 1 by omega), tn_up_n (show i + 1 ≠ m + 1 by omega)]
      exact h.2.2 i (by omega)
theorem tn_x_trace {post : SX → Prop} {E : Nat → Prop} {t : Nat} {k : Nat → Nat} (ht : t < 8) (hen : ∀ t, en t < 36) (hbw : ∀ t, bw t ≤ 100) (hop : ∀ c, c < 36 → (op c < nI (bw t) ↔ ¬ E c)) (hco : ∀ c, co c ≤ 20) (e : ∀ i, i < 6 → rk i = nI (k i)) (K : tn_RK E (tn_w co) (en t % 6) 1000000 k) (hF : k (en t / 6) < 1000000)
    (h : ∀ (fn' : Nat → Int32) (f : Nat → Nat) (m : Nat), m ≤ 5 → tn_TR E (tn_w co) k (en t / 6) f m → f m = en t % 6 → (∀ i, i ≤ m → fn' i = nI (f i)) → post (nI (m + 1), th, up, tn_I co, tn_I ca, cl, st, tn_I en, tn_I bw, tn_I pr, av, tl, tn_I nd, tn_I ln, op, rk, fn')) : wpX_traceBestPath post (fl, th, up, tn_I co, tn_I ca, cl, st, tn_I en, tn_I bw, tn_I pr, av, tl, tn_I nd, tn_I ln, op, rk, fn) (nI t) := by
  have he := hen t
  have v := tn_v8 ht
  have key : ∀ d m (fn : Nat → Int32) (f : Nat → Nat), m + d = 5 → tn_TR E (tn_w co) k (en t / 6) f m → (∀ i, i ≤ m → fn i = nI (f i)) → wX_traceBestPath_35 post (nI t) (nI (en t % 6)) (d + 1) (nI (f m)) (nI (m + 1)) (nI (m + 1)) th up (tn_I co) (tn_I ca) cl st (tn_I en) (tn_I bw) (tn_I pr) av tl (tn_I nd) (tn_I ln) op rk fn := by
    intro d
    induction d with
    | zero =>
      intro m fn f hm R ef
      have : m = 5 := by omega
      subst this
      refine br_t (by decide) (h fn f 5 (by omega) R ?_ ef)
      have c := tn_TR_ct tn_w_1 R 5 (Nat.le_refl _)
      refine Classical.byContradiction fun z => ?_
      have l5 := R.2.1 5 (Nat.le_refl _)
      have k5 := tn_TR_k R 5 (Nat.le_refl _)
      obtain ⟨u, hu, -, ek⟩ := K.2.2.2 (f 5) l5 z (by omega)
      have w1 := tn_w_1 (co := co) (tn_cd (f 5) u)
      have := tn_ct_lt (k := k) (v := f 5) hu (by omega)
      omega
    | succ d ih =>
      intro m fn f hm R ef
      have l5 := R.2.1 m (Nat.le_refl _)
      have k5 := tn_TR_k R m (Nat.le_refl _)
      refine br_f (tn_i6 (by omega)) (pk_eq (f m) (en t % 6) (fun z => h fn f m (by omega) R z ef) (fun z => ⟨v, ?_⟩) rfl rfl (by omega) (by omega))
      rw [tn_cl (tn_I bw) (by omega)]
      refine tn_x_next hop hco l5 K.2.1 e (K.2.2.2 (f m) l5 z (by omega)) fun u hu h1 h2 h3 => ⟨tn_v6 (by omega), nm_r (congrArg (fun z => upd fn z (nI u)) (nI_clamp (by omega))) (nm_r (nI_1 (m + 1)) (nm_r (nI_1 (m + 1)) ?_))⟩
      have q := ih (m + 1) (upd fn (m + 1) (nI u)) (tn_up f (m + 1) u) (by omega) (tn_TR_ext R hu h1 h2 h3) fun i hi => by
        by_cases y : i = m + 1
        · subst y; rw [pk_us, tn_up_s]
        · rw [pk_un y, tn_up_n y]; exact ef i (by omega)
      rw [tn_up_s] at q
      exact q
  refine ⟨v, tn_6, nm_r (e' := nI (en t / 6)) (by rw [tn_cl (tn_I en) (by omega)]; exact tn_d6 (by omega)) ⟨v, tn_6, nm_r (e' := nI (en t % 6)) (by rw [tn_cl (tn_I en) (by omega)]; exact tn_r6 (by omega)) (nm_e ⟨6, ?_⟩)⟩⟩
  exact key 5 0 (upd fn 0 (nI (en t / 6))) (fun _ => en t / 6) (by omega) ⟨rfl, fun i _ => (show en t / 6 < 6 by omega), fun i hi => absurd hi (Nat.not_lt_zero i)⟩ fun i hi => by
    have : i = 0 := by omega
    subst this
    exact pk_us
end
end
section
/-! X's stores: a tunnel made idle, a tunnel put on the found path -/
def tn_pl (nd : Nat → Nat) (t L : Nat) (f : Nat → Nat) : Nat → Nat := fun j => if 6 * t ≤ j ∧ j < 6 * t + L then f (j - 6 * t) else nd j
theorem tn_pl_in {nd f : Nat → Nat} {t L i : Nat} (h : i < L) : tn_pl nd t L f (6 * t + i) = f i := by
  unfold tn_pl
  rw [if_pos (by omega)]
  exact congrArg f (by omega)
theorem tn_pl_out {nd f : Nat → Nat} {t L s i : Nat} (hL : L ≤ 6) (h : s ≠ t) (hi : i < 6) : tn_pl nd t L f (6 * s + i) = nd (6 * s + i) := by
  unfold tn_pl
  rw [if_neg (by omega)]
theorem tn_pl_0 (nd f : Nat → Nat) (t : Nat) : tn_pl nd t 0 f = nd := by
  funext j
  unfold tn_pl
  rw [if_neg (by omega)]
theorem tn_pl_s (nd f : Nat → Nat) (t i : Nat) : upd (tn_I (tn_pl nd t i f)) (6 * t + i) (nI (f i)) = tn_I (tn_pl nd t (i + 1) f) := by
  rw [tn_up_I]
  apply congrArg tn_I
  funext j
  unfold tn_up tn_pl
  by_cases z : j = 6 * t + i
  · rw [if_pos z, if_pos (by omega)]
    exact congrArg f (by omega)
  · rw [if_neg z]
    by_cases y : 6 * t ≤ j ∧ j < 6 * t + i
    · rw [if_pos y, if_pos (by omega)]
    · rw [if_neg y, if_neg (by omega)]
theorem tn_pl_lt {nd f : Nat → Nat} {t L : Nat} (hn : ∀ i, nd i < 6) (hf : ∀ i, i < L → f i < 6) : ∀ j, tn_pl nd t L f j < 6 := by
  intro j
  unfold tn_pl
  split
  · exact hf _ (by omega)
  · exact hn j
theorem tn_pl_eq {nd f g : Nat → Nat} {t L : Nat} (h : ∀ i, i < L → f i = g i) : tn_pl nd t L f = tn_pl nd t L g := by
  funext j
  unfold tn_pl
  split
  · exact h _ (by omega)
  · rfl
theorem tn_ov_n {ln nd : Nat → Nat} {t s x c : Nat} (h : s ≠ t) : tn_ov (tn_up ln t x) nd s c ↔ tn_ov ln nd s c := by
  unfold tn_ov
  rw [tn_up_n h]
theorem tn_ov_0 {ln nd : Nat → Nat} {t c : Nat} : ¬ tn_ov (tn_up ln t 0) nd t c := by
  rintro ⟨i, h, -⟩
  rw [tn_up_s] at h
  omega
theorem tn_ov_pn {ln nd f : Nat → Nat} {t s L c : Nat} (hl : ∀ t, ln t ≤ 6) (hL : L ≤ 6) (h : s ≠ t) : tn_ov (tn_up ln t L) (tn_pl nd t L f) s c ↔ tn_ov ln nd s c := by
  have := hl s
  unfold tn_ov
  rw [tn_up_n h]
  constructor
  · rintro ⟨i, a, b⟩
    rw [tn_pl_out hL h (by omega), Nat.add_assoc, tn_pl_out hL h (by omega)] at b
    exact ⟨i, a, b⟩
  · rintro ⟨i, a, b⟩
    refine ⟨i, a, ?_⟩
    rw [tn_pl_out hL h (by omega), Nat.add_assoc, tn_pl_out hL h (by omega)]
    exact b
theorem tn_ov_ps {ln nd f : Nat → Nat} {t L c : Nat} : tn_ov (tn_up ln t L) (tn_pl nd t L f) t c ↔ ∃ i, i + 1 < L ∧ tn_cd (f i) (f (i + 1)) = c := by
  unfold tn_ov
  rw [tn_up_s]
  constructor
  · rintro ⟨i, a, b⟩
    rw [tn_pl_in (by omega), Nat.add_assoc, tn_pl_in a] at b
    exact ⟨i, a, b⟩
  · rintro ⟨i, a, b⟩
    refine ⟨i, a, ?_⟩
    rw [tn_pl_in (by omega), Nat.add_assoc, tn_pl_in a]
    exact b
section
variable {fl le bl bc : Int32} {th up cl av st wa op rk fn pa be : Nat → Int32} {co ca en bw pr ln nd : Nat → Nat} {tl : Nat → Int64}
theorem tn_TL_idle {t : Nat} (h : tn_TL tl ln nd) : tn_TL (vp_updL tl t 0) (tn_up ln t 0) nd := by
  intro s c hs hc
  by_cases z : s = t
  · subst z
    rw [pk_uLs]
    exact ⟨fun y => absurd y (tn_bt_0 (by omega)), fun y => absurd y tn_ov_0⟩
  · rw [pk_uLn z, tn_ov_n z]
    exact h s c hs hc
theorem tn_x_idle {post : SX → Prop} {t : Nat} (ht : t < 8) (h : post (fl, th, up, tn_I co, tn_I ca, cl, upd st t 1, tn_I en, tn_I bw, tn_I pr, av, vp_updL tl t 0, tn_I nd, tn_I (tn_up ln t 0), op, rk, fn)) : wpX_makeIdle post (fl, th, up, tn_I co, tn_I ca, cl, st, tn_I en, tn_I bw, tn_I pr, av, tl, tn_I nd, tn_I ln, op, rk, fn) (nI t) := by
  have v := tn_v8 ht
  have c : (nI t).toNatClampNeg = t := nI_clamp (by omega)
  refine ⟨v, nm_r (congrArg (fun z => upd st z 1) c) ⟨v, nm_r (congrArg (fun z => vp_updL tl z 0) c) ⟨v, nm_r ((congrArg (fun z => upd (tn_I ln) z 0) c).trans (tn_up_I ln t 0)) h⟩⟩⟩
theorem tn_x_place {post : SX → Prop} {t L : Nat} {f : Nat → Nat} (ht : t < 8) (hL : L ≤ 6) (hl : ∀ t, ln t ≤ 6) (hf : ∀ i, i < L → f i < 6) (ef : ∀ i, i < L → fn i = nI (f i)) (hT : tn_TL tl ln nd)
    (h : ∀ (st' : Nat → Int32) (tl' : Nat → Int64), tn_TL tl' (tn_up ln t L) (tn_pl nd t L f) → (∀ s, s ≠ t → st' s = st s) → st' t = 2 → post (nI L, th, up, tn_I co, tn_I ca, cl, st', tn_I en, tn_I bw, tn_I pr, av, tl', tn_I (tn_pl nd t L f), tn_I (tn_up ln t L), op, rk, fn)) : wpX_placeOnFoundPath post (nI L, th, up, tn_I co, tn_I ca, cl, st, tn_I en, tn_I bw, tn_I pr, av, tl, tn_I nd, tn_I ln, op, rk, fn) (nI t) := by
  have v := tn_v8 ht
  have cc : (nI t).toNatClampNeg = t := nI_clamp (by omega)
  have e2 : tn_up (tn_up ln t 0) t L = tn_up ln t L := by
    funext j
    unfold tn_up
    split <;> rfl
  have fin : ∀ tl' : Nat → Int64, (∀ s, s ≠ t → tl' s = tl s) → (∀ c, c < 36 → (tn_bt (tl' t) c ↔ ∃ j, j + 1 < L ∧ tn_cd (f j) (f (j + 1)) = c)) → wX_placeOnFoundPath_78 post (nI t) (nI L) th up (tn_I co) (tn_I ca) cl (upd st t 1) (tn_I en) (tn_I bw) (tn_I pr) av tl' (tn_I (tn_pl nd t L f)) (tn_I (tn_up ln t 0)) op rk fn := by
    intro tl' h1 h2
    refine ⟨v, nm_r ((congrArg (fun z => upd (tn_I (tn_up ln t 0)) z (nI L)) cc).trans ((tn_up_I _ t L).trans (congrArg tn_I e2))) ⟨v, nm_r (congrArg (fun z => upd (upd st t 1) z 2) cc) (h _ tl' ?_ (fun s hs => by rw [pk_un hs, pk_un hs]) pk_us)⟩⟩
    intro s c hs hc
    by_cases z : s = t
    · subst z
      rw [h2 c hc, tn_ov_ps]
    · rw [h1 s z, tn_ov_pn hl hL z]
      exact hT s c hs hc
  have key : ∀ d i (tl' : Nat → Int64), i + d = L → (∀ s, s ≠ t → tl' s = tl s) → (∀ c, c < 36 → (tn_bt (tl' t) c ↔ ∃ j, j + 1 < i ∧ tn_cd (f j) (f (j + 1)) = c)) → wX_placeOnFoundPath_7 post (nI t) (nI L) (d + 1) (nI i) th up (tn_I co) (tn_I ca) cl (upd st t 1) (tn_I en) (tn_I bw) (tn_I pr) av tl' (tn_I (tn_pl nd t i f)) (tn_I (tn_up ln t 0)) op rk fn := by
    intro d
    induction d with
    | zero =>
      intro i tl' hi h1 h2
      have : i = L := by omega
      subst this
      exact br_c (fun _ => fin tl' h1 h2) (fun _ => br_t (Int32.le_refl _) (fin tl' h1 h2))
    | succ d ih =>
      intro i tl' hi h1 h2
      refine br_f (tn_i6 (by omega)) (br_f (nI_ge (by omega) (by omega)) ⟨tn_v6 (by omega), ?_⟩)
      rw [tn_6ab, nI_clamp (show 6 * t + i < 2 ^ 31 by omega), nI_clamp (show i < 2 ^ 31 by omega), ef i (by omega)]
      refine ⟨tn_v48 (by omega), nm_r (tn_pl_s nd f t i) ?_⟩
      rcases Nat.eq_zero_or_pos i with z | z
      · subst z
        refine br_t (Int32.le_refl _) (nm_r (nI_1 0) (ih 1 tl' (by omega) h1 fun c hc => ?_))
        rw [h2 c hc]
        exact ⟨fun ⟨j, a, _⟩ => by omega, fun ⟨j, a, _⟩ => by omega⟩
      · obtain ⟨j, rfl⟩ : ∃ j, i = j + 1 := ⟨i - 1, by omega⟩
        refine br_f (nI_nle (by omega) (by omega)) ?_
        rw [nI_pred, nI_clamp (show j < 2 ^ 31 by omega), ef j (by omega), cc]
        have f1 := hf j (by omega)
        have f2 := hf (j + 1) (by omega)
        have c36 := tn_cd_lt f1 f2
        refine ⟨tn_v6 (by omega), tn_v6 (by omega), tn_x_code (by omega) (by omega) ⟨v, v, nm_e (nm_r (nI_1 (j + 1)) (ih (j + 1 + 1) _ (by omega) (fun s hs => by rw [pk_uLn hs]; exact h1 s hs) fun c hc => ?_))⟩⟩
        rw [pk_uLs, tn_bt_or _ (by omega) (by omega), h2 c hc]
        constructor
        · rintro (⟨a, b1, b2⟩ | b)
          · exact ⟨a, by omega, b2⟩
          · exact ⟨j, by omega, b⟩
        · rintro ⟨a, b1, b2⟩
          rcases Nat.lt_or_ge (a + 1) (j + 1) with y | y
          · exact Or.inl ⟨a, y, b2⟩
          · have : a = j := by omega
            subst this
            exact Or.inr b2
  unfold wpX_placeOnFoundPath
  refine tn_x_idle ht ?_
  refine ⟨L + 1, ?_⟩
  have k := key L 0 (vp_updL tl t 0) (by omega) (fun s hs => pk_uLn hs) fun c hc => by
    rw [pk_uLs]
    exact ⟨fun y => absurd y (tn_bt_0 (by omega)), fun ⟨j, a, _⟩ => by omega⟩
  rw [tn_pl_0] at k
  exact k
end
end
section
/-! Y's paths by number: made, measured -/
theorem tn_p6 {b : Nat} (h : b < 5) : 6 ^ b ≤ 1296 := Nat.le_trans (Nat.pow_le_pow_right (by decide) (show b ≤ 4 by omega)) (by decide)
def tn_DI (e b n : Nat) : Prop := ∀ i j, i < b + 2 → j < i → tn_pt e b n i ≠ tn_pt e b n j
section
variable {fl le bl bc : Int32} {th up cl av st wa op rk fn pa be : Nat → Int32} {co ca en bw pr ln nd : Nat → Nat} {tl : Nat → Int64}
theorem tn_y_mk {post : Int32 → SY → Prop} {e b n : Nat} (he : e < 36) (hb : b < 5) (hn : n < 6 ^ b)
    (h : ∀ pa' : Nat → Int32, (∀ j, j < b + 2 → pa' j = nI (tn_pt e b n j)) → ((tn_DI e b n → post 1 (nI (b + 2), bl, bc, th, tn_I co, tn_I ca, cl, up, wa, tn_I en, tn_I bw, tn_I pr, av, tn_I ln, tn_I nd, pa', be)) ∧ (¬ tn_DI e b n → post 0 (nI (b + 2), bl, bc, th, tn_I co, tn_I ca, cl, up, wa, tn_I en, tn_I bw, tn_I pr, av, tn_I ln, tn_I nd, pa', be)))) : wpY_makePath post (le, bl, bc, th, tn_I co, tn_I ca, cl, up, wa, tn_I en, tn_I bw, tn_I pr, av, tn_I ln, tn_I nd, pa, be) (nI e) (nI b) (nI n) := by
  have h6 := tn_p6 hb
  have chk : ∀ pa : Nat → Int32, (∀ j, j < b + 2 → pa j = nI (tn_pt e b n j)) → ∀ d i, i + d = b + 2 → (∀ i' j, i' < i → j < i' → tn_pt e b n i' ≠ tn_pt e b n j) → wY_makePath_68 post (nI (b + 2)) bl bc th (tn_I co) (tn_I ca) cl up wa (tn_I en) (tn_I bw) (tn_I pr) av (tn_I ln) (tn_I nd) pa be (d + 1) (nI i) := by
    intro pa ep d
    obtain ⟨p1, p0⟩ := h pa ep
    induction d with
    | zero =>
      intro i hi hd
      have : i = b + 2 := by omega
      subst this
      exact br_t (Int32.le_refl _) (p1 hd)
    | succ d ih =>
      intro i hi hd
      refine br_f (nI_ge (by omega) (by omega)) ⟨i + 1, ?_⟩
      have inner : ∀ d2 j, j + d2 = i → (∀ j', j' < j → tn_pt e b n i ≠ tn_pt e b n j') → wY_makePath_80 post (wY_makePath_68 post (nI (b + 2)) bl bc th (tn_I co) (tn_I ca) cl up wa (tn_I en) (tn_I bw) (tn_I pr) av (tn_I ln) (tn_I nd) pa be (d + 1)) (nI i) (nI (b + 2)) bl bc th (tn_I co) (tn_I ca) cl up wa (tn_I en) (tn_I bw) (tn_I pr) av (tn_I ln) (tn_I nd) pa be (d2 + 1) (nI j) := by
        intro d2
        induction d2 with
        | zero =>
          intro j hj hd2
          have : j = i := by omega
          subst this
          refine br_t (Int32.le_refl _) (nm_r (nI_1 j) (ih (j + 1) (by omega) fun i' j' h1 h2 => ?_))
          by_cases z : i' = j
          · subst z; exact hd2 j' h2
          · exact hd i' j' (by omega) h2
        | succ d2 ih2 =>
          intro j hj hd2
          refine br_f (nI_ge (by omega) (by omega)) ⟨tn_v6 (by omega), tn_v6 (by omega), ?_⟩
          rw [nI_clamp (show i < 2 ^ 31 by omega), nI_clamp (show j < 2 ^ 31 by omega)]
          have l1 := tn_pt_lt (b := b) (n := n) (i := i) he
          have l2 := tn_pt_lt (b := b) (n := n) (i := j) he
          refine pk_eq _ _ (fun z => p0 fun y => y i j (by omega) (by omega) z) (fun z => nm_r (nI_1 j) (ih2 (j + 1) (by omega) fun j' hj' => ?_)) (ep i (by omega)) (ep j (by omega)) (by omega) (by omega)
          by_cases y : j' = j
          · subst y; exact z
          · exact hd2 j' (by omega)
      exact inner i 0 (by omega) (fun j' hj' => absurd hj' (Nat.not_lt_zero j'))
  have fill : ∀ i (pa : Nat → Int32), i ≤ b → (∀ j, j < b + 2 → (j = 0 ∨ i < j) → pa j = nI (tn_pt e b n j)) → wY_makePath_35 post (nI (b + 2)) bl bc (i + 1) (nI (n / 6 ^ (b - i))) (nI i) th (tn_I co) (tn_I ca) cl up wa (tn_I en) (tn_I bw) (tn_I pr) av (tn_I ln) (tn_I nd) pa be := by
    intro i
    induction i with
    | zero =>
      intro pa hi ep
      exact br_t (Int32.le_refl _) ⟨b + 3, chk pa (fun j hj => ep j hj (by omega)) (b + 2) 0 (by omega) (fun i' j h1 => absurd h1 (Nat.not_lt_zero i'))⟩
    | succ i ih =>
      intro pa hi ep
      have hlt : n / 6 ^ (b - (i + 1)) < 2 ^ 31 := Nat.lt_of_le_of_lt (Nat.div_le_self _ _) (by omega)
      refine br_f (nI_nle (by omega) (by omega)) ⟨tn_6, tn_v6 (by omega), ?_⟩
      rw [nI_clamp (show i + 1 < 2 ^ 31 by omega), tn_r6 hlt]
      refine nm_e ⟨tn_6, nm_r (e' := nI (n / 6 ^ (b - i))) ?_ (nm_r (pk_m1 i) (ih _ (by omega) fun j hj hj2 => ?_))⟩
      · rw [tn_d6 hlt, Nat.div_div_eq_div_mul, ← Nat.pow_succ, show (b - (i + 1)).succ = b - i by omega]
      · by_cases z : j = i + 1
        · subst z
          rw [pk_us, tn_pt_m (by omega) hi]
        · rw [pk_un z]
          exact ep j hj (by omega)
  refine nm_r (nI_add b 2) ⟨tn_6, nm_r (congrArg (fun z => upd pa 0 z) (tn_d6 (by omega))) ⟨tn_6, ?_⟩⟩
  rw [nI_1, nI_clamp (show b + 1 < 2 ^ 31 by omega), tn_r6 (show e < 2 ^ 31 by omega)]
  refine ⟨tn_v6 (by omega), nm_e ⟨b + 1, ?_⟩⟩
  have k := fill b (upd (upd pa 0 (nI (e / 6))) (b + 1) (nI (e % 6))) (Nat.le_refl _) fun j hj hj2 => by
    by_cases z : j = b + 1
    · subst z
      rw [pk_us, tn_pt_e]
    · rw [pk_un z]
      have : j = 0 := by omega
      subst this
      rw [pk_us, tn_pt_0]
  rw [Nat.sub_self, Nat.pow_zero, Nat.div_one] at k
  exact k
/-- what a path lets pass: r is below 1, or a number up to 100, and A x says that x fits -/
def tn_WS (A : Nat → Prop) (r : Int32) : Prop := (r < 1 ∧ ∀ x, 1 ≤ x → ¬ A x) ∨ ∃ y, 1 ≤ y ∧ y ≤ 100 ∧ r = nI y ∧ ∀ x, 1 ≤ x → (A x ↔ x ≤ y)
theorem tn_lt1 (r : Int32) : r < 1 ↔ r.toInt < 1 := by
  rw [Int32.lt_iff_toInt_lt, show (1 : Int32).toInt = 1 from by decide]
theorem tn_y_width {post : Int32 → Prop} {m p : Nat} {a q : Int32} {f : Nat → Nat} (hm : 1 ≤ m) (hm5 : m ≤ 5) (hp : p < 2 ^ 20) (hpr : ∀ t, pr t ≤ 3) (hl : ∀ t, ln t ≤ 6) (hn : ∀ i, nd i < 6) (hca : ∀ c, ca c ≤ 100) (hbw : ∀ t, bw t ≤ 100)
    (hf : ∀ i, i < m + 1 → f i < 6) (ef : ∀ i, i < m + 1 → pa i = nI (f i))
    (h : ∀ r, tn_WS (fun x => ∀ i, i < m → tn_EU th up cl a ca bw pr ln nd q p x (tn_cd (f i) (f (i + 1)))) r → post r) : wpY_width post (nI (m + 1), bl, bc, th, tn_I co, tn_I ca, cl, up, wa, tn_I en, tn_I bw, tn_I pr, av, tn_I ln, tn_I nd, pa, be) (nI p) a q := by
  have key : ∀ d i (r : Int32), i + d = m → ((r < 1 ∧ ∀ x, 1 ≤ x → ¬ ∀ j, j < i → tn_EU th up cl a ca bw pr ln nd q p x (tn_cd (f j) (f (j + 1)))) ∨ ∃ y, 1 ≤ y ∧ y ≤ 1000 ∧ r = nI y ∧ ∀ x, 1 ≤ x → x ≤ 1000 → ((∀ j, j < i → tn_EU th up cl a ca bw pr ln nd q p x (tn_cd (f j) (f (j + 1)))) ↔ x ≤ y)) → wY_width_8 post (nI p) a q (nI (m + 1)) bl bc th (tn_I co) (tn_I ca) cl up wa (tn_I en) (tn_I bw) (tn_I pr) av (tn_I ln) (tn_I nd) pa be (d + 1) r (nI i) := by
    intro d
    induction d with
    | zero =>
      intro i r hi I
      have : i = m := by omega
      subst this
      refine br_t ((tn_le1 (by omega) (by omega)).2 (Nat.le_refl _)) (h r ?_)
      rcases I with I | ⟨y, y1, y2, er, I⟩
      · exact Or.inl I
      · have hy := (I y y1 y2).2 (Nat.le_refl _) 0 (by omega)
        have c100 := hca (tn_cd (f 0) (f (0 + 1)))
        have := hy.2.2
        refine Or.inr ⟨y, y1, by omega, er, fun x hx => ⟨fun A => ?_, fun A => (I x hx (by omega)).2 A⟩⟩
        have := (A 0 (by omega)).2.2
        exact (I x hx (by omega)).1 A
    | succ d ih =>
      intro i r hi I
      refine br_f (fun z => by have := (tn_le1 (by omega) (by omega)).1 z; omega) ⟨tn_v6 (by omega), ?_⟩
      rw [nI_1, nI_clamp (show i < 2 ^ 31 by omega), nI_clamp (show i + 1 < 2 ^ 31 by omega), ef i (by omega), ef (i + 1) (by omega)]
      have f1 := hf i (by omega)
      have f2 := hf (i + 1) (by omega)
      have c36 := tn_cd_lt f1 f2
      refine ⟨tn_v6 (by omega), tn_y_code (by omega) (by omega) (tn_y_use c36 (fun o => br_f (by decide) (tn_y_room c36 hp hpr hl hn ?_)) (fun o => br_t rfl (h _ (Or.inl ⟨by decide, fun x hx A => o (A i (by omega)).2.1⟩))))⟩
      have c100 := hca (tn_cd (f i) (f (i + 1)))
      have t800 := tn_tk_le (pr := pr) (ln := ln) (nd := nd) hbw q p (tn_cd (f i) (f (i + 1)))
      have eR := pk_sub_toInt (a := ca (tn_cd (f i) (f (i + 1)))) (b := tn_tk bw pr ln nd q p (tn_cd (f i) (f (i + 1)))) (by omega) (by omega)
      have eE : ∀ x, tn_EU th up cl a ca bw pr ln nd q p x (tn_cd (f i) (f (i + 1))) ↔ (x : Int) ≤ (nI (ca (tn_cd (f i) (f (i + 1)))) - nI (tn_tk bw pr ln nd q p (tn_cd (f i) (f (i + 1))))).toInt := by
        intro x
        rw [eR]
        exact ⟨fun z => by have := z.2.2; omega, fun z => ⟨c36, o, by omega⟩⟩
      have ps : nI (ca (tn_cd (f i) (f (i + 1)))) - nI (tn_tk bw pr ln nd q p (tn_cd (f i) (f (i + 1)))) < 1 ∨ ∃ y, 1 ≤ y ∧ y ≤ 100 ∧ nI (ca (tn_cd (f i) (f (i + 1)))) - nI (tn_tk bw pr ln nd q p (tn_cd (f i) (f (i + 1)))) = nI y := by
        rcases Nat.lt_or_ge (tn_tk bw pr ln nd q p (tn_cd (f i) (f (i + 1)))) (ca (tn_cd (f i) (f (i + 1)))) with z | z
        · exact Or.inr ⟨_, by omega, by omega, pk_sub (by omega)⟩
        · rw [tn_lt1, eR]
          exact Or.inl (by omega)
      generalize nI (ca (tn_cd (f i) (f (i + 1)))) - nI (tn_tk bw pr ln nd q p (tn_cd (f i) (f (i + 1)))) = R at eE ps
      clear eR
      have sp : ∀ x, (∀ j, j < i + 1 → tn_EU th up cl a ca bw pr ln nd q p x (tn_cd (f j) (f (j + 1)))) ↔ ((∀ j, j < i → tn_EU th up cl a ca bw pr ln nd q p x (tn_cd (f j) (f (j + 1)))) ∧ (x : Int) ≤ R.toInt) := by
        intro x
        rw [← eE x]
        exact ⟨fun A => ⟨fun j hj => A j (by omega), A i (by omega)⟩, fun A j hj => (Nat.lt_or_ge j i).elim (fun l => A.1 j l) (fun l => (show j = i by omega) ▸ A.2)⟩
      refine br_c (fun z => nm_e (ih (i + 1) r (by omega) ?_)) (fun z => nm_e (ih (i + 1) R (by omega) ?_))
      · rw [Int32.le_iff_toInt_le] at z
        rcases I with I | ⟨y, y1, y2, er, I⟩
        · exact Or.inl ⟨I.1, fun x hx A => I.2 x hx ((sp x).1 A).1⟩
        · refine Or.inr ⟨y, y1, y2, er, fun x hx hx2 => ?_⟩
          rw [sp x, I x hx hx2]
          rw [er, nI_toInt (by omega)] at z
          exact ⟨fun A => A.1, fun A => ⟨A, by omega⟩⟩
      · rw [Int32.le_iff_toInt_le] at z
        rcases I with I | ⟨y, y1, y2, er, I⟩
        · refine Or.inl ⟨?_, fun x hx A => I.2 x hx ((sp x).1 A).1⟩
          have := (tn_lt1 r).1 I.1
          rw [tn_lt1]
          omega
        · rw [er, nI_toInt (by omega)] at z
          rcases ps with ps | ⟨y', w1, w2, ps⟩
          · refine Or.inl ⟨ps, fun x hx A => ?_⟩
            have := ((sp x).1 A).2
            have := (tn_lt1 R).1 ps
            omega
          · refine Or.inr ⟨y', w1, by omega, ps, fun x hx hx2 => ?_⟩
            rw [sp x, I x hx hx2]
            rw [ps, nI_toInt (by omega)] at z ⊢
            exact ⟨fun A => by have := A.2; omega, fun A => ⟨by omega, by omega⟩⟩
  exact ⟨m + 1, key m 0 1000 (by omega) (Or.inr ⟨1000, by omega, by omega, rfl, fun x hx hx2 => ⟨fun _ => hx2, fun _ j hj => absurd hj (Nat.not_lt_zero j)⟩⟩)⟩
theorem tn_y_pcost {post : Int32 → Prop} {m : Nat} {f : Nat → Nat} (hm5 : m ≤ 5) (hf : ∀ i, i < m + 1 → f i < 6) (ef : ∀ i, i < m + 1 → pa i = nI (f i)) (h : post (nI (tn_CO co f m))) : wpY_pathCost post (nI (m + 1), bl, bc, th, tn_I co, tn_I ca, cl, up, wa, tn_I en, tn_I bw, tn_I pr, av, tn_I ln, tn_I nd, pa, be) := by
  have key : ∀ d i, i + d = m → wY_pathCost_4 post (nI (m + 1)) bl bc th (tn_I co) (tn_I ca) cl up wa (tn_I en) (tn_I bw) (tn_I pr) av (tn_I ln) (tn_I nd) pa be (d + 1) (nI (tn_CO co f i)) (nI i) := by
    intro d
    induction d with
    | zero =>
      intro i hi
      have : i = m := by omega
      subst this
      exact br_t ((tn_le1 (by omega) (by omega)).2 (Nat.le_refl _)) h
    | succ d ih =>
      intro i hi
      refine br_f (fun z => by have := (tn_le1 (by omega) (by omega)).1 z; omega) ⟨tn_v6 (by omega), ?_⟩
      rw [nI_1, nI_clamp (show i < 2 ^ 31 by omega), nI_clamp (show i + 1 < 2 ^ 31 by omega), ef i (by omega), ef (i + 1) (by omega)]
      have f1 := hf i (by omega)
      have f2 := hf (i + 1) (by omega)
      have c36 := tn_cd_lt f1 f2
      refine ⟨tn_v6 (by omega), tn_y_code (by omega) (by omega) ⟨tn_v36 c36, nm_r (e' := nI (tn_CO co f (i + 1))) ?_ (nm_r rfl (ih (i + 1) (by omega)))⟩⟩
      rw [tn_cl (tn_I co) (by omega), nI_add]
      rfl
  exact ⟨m + 1, key m 0 (by omega)⟩
end
end
section
/-! Y's best path -/
def tn_BF (b n b' n' : Nat) : Prop := b' < b ∨ (b' = b ∧ n' < n)
def tn_SC (E : Nat → Prop) (co : Nat → Nat) (e b n : Nat) (bl bc : Int32) (be : Nat → Int32) : Prop :=
  (bl = 0 ∧ ∀ b' n', b' < 5 → n' < 6 ^ b' → tn_BF b n b' n' → ¬ tn_VA E e b' n') ∨
  ∃ b1 n1, b1 < 5 ∧ n1 < 6 ^ b1 ∧ tn_VA E e b1 n1 ∧ tn_BF b n b1 n1 ∧ bl = nI (b1 + 2) ∧ bc = nI (tn_CO co (tn_pt e b1 n1) (b1 + 1)) ∧ (∀ i, i < b1 + 2 → be i = nI (tn_pt e b1 n1 i)) ∧
    ∀ b' n', b' < 5 → n' < 6 ^ b' → tn_BF b n b' n' → tn_VA E e b' n' → tn_CO co (tn_pt e b1 n1) (b1 + 1) < tn_CO co (tn_pt e b' n') (b' + 1) ∨ (tn_CO co (tn_pt e b1 n1) (b1 + 1) = tn_CO co (tn_pt e b' n') (b' + 1) ∧ (b1 < b' ∨ (b1 = b' ∧ n1 ≤ n')))
theorem tn_BF_s {b n b' n' : Nat} (h : tn_BF b (n + 1) b' n') : tn_BF b n b' n' ∨ (b' = b ∧ n' = n) := by
  unfold tn_BF at *
  omega
theorem tn_SC_0 {E : Nat → Prop} {co : Nat → Nat} {e : Nat} {bc : Int32} {be : Nat → Int32} : tn_SC E co e 0 0 0 bc be :=
  Or.inl ⟨rfl, fun b' n' _ _ h => by unfold tn_BF at h; omega⟩
theorem tn_SC_b {E : Nat → Prop} {co : Nat → Nat} {e b : Nat} {bl bc : Int32} {be : Nat → Int32} (h : tn_SC E co e b (6 ^ b) bl bc be) : tn_SC E co e (b + 1) 0 bl bc be := by
  have q : ∀ b' n', n' < 6 ^ b' → tn_BF (b + 1) 0 b' n' → tn_BF b (6 ^ b) b' n' := by
    intro b' n' h1 h2
    rcases h2 with h2 | h2
    · by_cases z : b' = b
      · subst z; exact Or.inr ⟨rfl, h1⟩
      · exact Or.inl (by omega)
    · omega
  rcases h with ⟨h1, h2⟩ | ⟨b1, n1, h1, h2, h3, h4, h5, h6, h7, h8⟩
  · exact Or.inl ⟨h1, fun b' n' a1 a2 a3 => h2 b' n' a1 a2 (q b' n' a2 a3)⟩
  · refine Or.inr ⟨b1, n1, h1, h2, h3, ?_, h5, h6, h7, fun b' n' a1 a2 a3 => h8 b' n' a1 a2 (q b' n' a2 a3)⟩
    unfold tn_BF at *
    omega
theorem tn_SC_skip {E : Nat → Prop} {co : Nat → Nat} {e b n : Nat} {bl bc : Int32} {be : Nat → Int32} (h : tn_SC E co e b n bl bc be) (hv : ¬ tn_VA E e b n) : tn_SC E co e b (n + 1) bl bc be := by
  rcases h with ⟨h1, h2⟩ | ⟨b1, n1, h1, h2, h3, h4, h5, h6, h7, h8⟩
  · refine Or.inl ⟨h1, fun b' n' a1 a2 a3 => ?_⟩
    rcases tn_BF_s a3 with z | ⟨rfl, rfl⟩
    · exact h2 b' n' a1 a2 z
    · exact hv
  · refine Or.inr ⟨b1, n1, h1, h2, h3, ?_, h5, h6, h7, fun b' n' a1 a2 a3 a4 => ?_⟩
    · unfold tn_BF at *
      omega
    · rcases tn_BF_s a3 with z | ⟨rfl, rfl⟩
      · exact h8 b' n' a1 a2 z a4
      · exact absurd a4 hv
theorem tn_SC_keep {E : Nat → Prop} {co : Nat → Nat} {e b n b1 n1 : Nat} {bl bc : Int32} {be : Nat → Int32} (h1 : b1 < 5) (h2 : n1 < 6 ^ b1) (h3 : tn_VA E e b1 n1) (h4 : tn_BF b n b1 n1) (h5 : bl = nI (b1 + 2)) (h6 : bc = nI (tn_CO co (tn_pt e b1 n1) (b1 + 1))) (h7 : ∀ i, i < b1 + 2 → be i = nI (tn_pt e b1 n1 i))
    (h8 : ∀ b' n', b' < 5 → n' < 6 ^ b' → tn_BF b n b' n' → tn_VA E e b' n' → tn_CO co (tn_pt e b1 n1) (b1 + 1) < tn_CO co (tn_pt e b' n') (b' + 1) ∨ (tn_CO co (tn_pt e b1 n1) (b1 + 1) = tn_CO co (tn_pt e b' n') (b' + 1) ∧ (b1 < b' ∨ (b1 = b' ∧ n1 ≤ n'))))
    (hc : tn_CO co (tn_pt e b1 n1) (b1 + 1) ≤ tn_CO co (tn_pt e b n) (b + 1)) : tn_SC E co e b (n + 1) bl bc be := by
  refine Or.inr ⟨b1, n1, h1, h2, h3, ?_, h5, h6, h7, fun b' n' a1 a2 a3 a4 => ?_⟩
  · unfold tn_BF at *
    omega
  · rcases tn_BF_s a3 with z | ⟨rfl, rfl⟩
    · exact h8 b' n' a1 a2 z a4
    · unfold tn_BF at h4
      omega
theorem tn_SC_take {E : Nat → Prop} {co : Nat → Nat} {e b n : Nat} {bl bc bl' bc' : Int32} {be be' : Nat → Int32} (h : tn_SC E co e b n bl bc be) (hb : b < 5) (hn : n < 6 ^ b) (hv : tn_VA E e b n)
    (hc : bl = 0 ∨ ∀ b1 n1, b1 < 5 → n1 < 6 ^ b1 → tn_VA E e b1 n1 → bc = nI (tn_CO co (tn_pt e b1 n1) (b1 + 1)) → tn_CO co (tn_pt e b n) (b + 1) < tn_CO co (tn_pt e b1 n1) (b1 + 1))
    (h5 : bl' = nI (b + 2)) (h6 : bc' = nI (tn_CO co (tn_pt e b n) (b + 1))) (h7 : ∀ i, i < b + 2 → be' i = nI (tn_pt e b n i)) : tn_SC E co e b (n + 1) bl' bc' be' := by
  refine Or.inr ⟨b, n, hb, hn, hv, ?_, h5, h6, h7, fun b' n' a1 a2 a3 a4 => ?_⟩
  · unfold tn_BF
    omega
  · rcases tn_BF_s a3 with z | ⟨rfl, rfl⟩
    · rcases h with ⟨h1, h2⟩ | ⟨b1, n1, g1, g2, g3, g4, g5, g6, g7, g8⟩
      · exact absurd a4 (h2 b' n' a1 a2 z)
      · have q := g8 b' n' a1 a2 z a4
        rcases hc with hc | hc
        · rw [g5] at hc
          exact absurd hc (nI_ne0 (by omega) (by omega))
        · have := hc b1 n1 g1 g2 g3 g6
          exact Or.inl (by omega)
    · exact Or.inr ⟨rfl, Or.inr ⟨rfl, Nat.le_refl _⟩⟩
theorem tn_SC_fin {E : Nat → Prop} {co : Nat → Nat} {e : Nat} {bl bc : Int32} {be : Nat → Int32} (h : tn_SC E co e 5 0 bl bc be) :
    (bl = 0 ∧ ∀ b n, b < 5 → n < 6 ^ b → ¬ tn_VA E e b n) ∨ ∃ b n, tn_BE E co e b n ∧ bl = nI (b + 2) ∧ bc = nI (tn_CO co (tn_pt e b n) (b + 1)) ∧ ∀ i, i < b + 2 → be i = nI (tn_pt e b n i) := by
  rcases h with ⟨h1, h2⟩ | ⟨b1, n1, g1, g2, g3, g4, g5, g6, g7, g8⟩
  · exact Or.inl ⟨h1, fun b n a1 a2 => h2 b n a1 a2 (Or.inl a1)⟩
  · exact Or.inr ⟨b1, n1, ⟨g1, g2, g3, fun b' n' a1 a2 a4 => g8 b' n' a1 a2 (Or.inl a1) a4⟩, g5, g6, g7⟩
abbrev tn_JY : Type := Int32 → Int32 → Int32 → Int32 → (Nat → Int32) → (Nat → Int32) → (Nat → Int32) → (Nat → Int32) → (Nat → Int32) → (Nat → Int32) → (Nat → Int32) → (Nat → Int32) → (Nat → Int32) → (Nat → Int32) → (Nat → Int32) → (Nat → Int32) → (Nat → Int32) → (Nat → Int32) → Prop
section
variable {fl le bl bc : Int32} {th up cl av st wa op rk fn pa be : Nat → Int32} {co ca en bw pr ln nd : Nat → Nat} {tl : Nat → Int64}
theorem tn_y_nums {post : Int32 → Prop} {b : Nat} (hb : b < 5) (h : post (nI (6 ^ b))) : wpY_numbers post (le, bl, bc, th, tn_I co, tn_I ca, cl, up, wa, tn_I en, tn_I bw, tn_I pr, av, tn_I ln, tn_I nd, pa, be) (nI b) := by
  have hb' : b = 0 ∨ b = 1 ∨ b = 2 ∨ b = 3 ∨ b = 4 := by omega
  rcases hb' with rfl | rfl | rfl | rfl | rfl
  · exact br_t rfl h
  · exact br_f (by decide) (br_t rfl h)
  · exact br_f (by decide) (br_f (by decide) (br_t rfl h))
  · exact br_f (by decide) (br_f (by decide) (br_f (by decide) (br_t rfl h)))
  · exact br_f (by decide) (br_f (by decide) (br_f (by decide) (br_f (by decide) h)))
theorem tn_y_take {post : Int32 → SY → Prop} {J8 J17 : tn_JY} {x1 x2 x3 x4 x5 x6 x7 : Int32} {m : Nat} {f : Nat → Nat} (hm5 : m ≤ 5) (hf : ∀ i, i < m + 1 → f i < 6) (ef : ∀ i, i < m + 1 → pa i = nI (f i))
    (h : ∀ be', (∀ i, i < m + 1 → be' i = nI (f i)) → J17 (x7 + 1) (nI (m + 1)) (nI (m + 1)) (nI (tn_CO co f m)) th (tn_I co) (tn_I ca) cl up wa (tn_I en) (tn_I bw) (tn_I pr) av (tn_I ln) (tn_I nd) pa be') : wY_findBest_71 post J8 J17 x1 x2 x3 x4 x5 x6 x7 (nI (m + 1)) bl bc th (tn_I co) (tn_I ca) cl up wa (tn_I en) (tn_I bw) (tn_I pr) av (tn_I ln) (tn_I nd) pa be := by
  refine tn_y_pcost hm5 hf ef ⟨m + 2, ?_⟩
  have key : ∀ d i (be : Nat → Int32), i + d = m + 1 → (∀ j, j < i → be j = nI (f j)) → wY_findBest_90 post J8 J17 x1 x2 x3 x4 x5 x6 x7 (nI (m + 1)) (nI (m + 1)) (nI (tn_CO co f m)) (d + 1) (nI i) th (tn_I co) (tn_I ca) cl up wa (tn_I en) (tn_I bw) (tn_I pr) av (tn_I ln) (tn_I nd) pa be := by
    intro d
    induction d with
    | zero =>
      intro i be hi e
      have : i = m + 1 := by omega
      subst this
      exact br_t (Int32.le_refl _) (nm_e (h be e))
    | succ d ih =>
      intro i be hi e
      refine br_f (nI_ge (by omega) (by omega)) ⟨tn_v6 (by omega), tn_v6 (by omega), ?_⟩
      rw [nI_clamp (show i < 2 ^ 31 by omega)]
      refine nm_e (nm_r (nI_1 i) (ih (i + 1) _ (by omega) fun j hj => ?_))
      by_cases z : j = i
      · subst z; rw [pk_us]; exact ef j (by omega)
      · rw [pk_un z]; exact e j (by omega)
  exact key (m + 1) 0 be (by omega) (fun j hj => absurd hj (Nat.not_lt_zero j))
theorem tn_VA_DI {E : Nat → Prop} {e b n : Nat} : tn_VA E e b n ↔ tn_DI e b n ∧ ∀ i, i < b + 1 → E (tn_cd (tn_pt e b n i) (tn_pt e b n (i + 1))) := Iff.rfl
theorem tn_WS_lt {A : Nat → Prop} {r : Int32} {x : Nat} (h : tn_WS A r) (hx : 1 ≤ x) (hx2 : x ≤ 100) : r < nI x ↔ ¬ A x := by
  rcases h with ⟨h1, h2⟩ | ⟨y, y1, y2, er, I⟩
  · refine ⟨fun _ => h2 x hx, fun _ => ?_⟩
    rw [tn_lt1] at h1
    rw [Int32.lt_iff_toInt_lt, nI_toInt (by omega)]
    omega
  · rw [er, nI_ltI (by omega) (by omega), I x hx]
    omega
theorem tn_y_best {post : Int32 → SY → Prop} {e b0 p : Nat} {a q : Int32} (he : e < 36) (hb1 : 1 ≤ b0) (hb2 : b0 ≤ 100) (hp : p < 2 ^ 20) (hpr : ∀ t, pr t ≤ 3) (hl : ∀ t, ln t ≤ 6) (hn : ∀ i, nd i < 6) (hca : ∀ c, ca c ≤ 100) (hbw : ∀ t, bw t ≤ 100) (hco : ∀ c, co c ≤ 20)
    (h : ∀ (le' bl' bc' : Int32) (pa' be' : Nat → Int32),
      (bl' = 0 → (∀ b n, b < 5 → n < 6 ^ b → ¬ tn_VA (tn_EU th up cl a ca bw pr ln nd q p b0) e b n) → post 0 (le', bl', bc', th, tn_I co, tn_I ca, cl, up, wa, tn_I en, tn_I bw, tn_I pr, av, tn_I ln, tn_I nd, pa', be')) ∧
      (∀ b n, tn_BE (tn_EU th up cl a ca bw pr ln nd q p b0) co e b n → bl' = nI (b + 2) → bc' = nI (tn_CO co (tn_pt e b n) (b + 1)) → (∀ i, i < b + 2 → be' i = nI (tn_pt e b n i)) → post 1 (le', bl', bc', th, tn_I co, tn_I ca, cl, up, wa, tn_I en, tn_I bw, tn_I pr, av, tn_I ln, tn_I nd, pa', be'))) :
    wpY_findBest post (le, bl, bc, th, tn_I co, tn_I ca, cl, up, wa, tn_I en, tn_I bw, tn_I pr, av, tn_I ln, tn_I nd, pa, be) (nI e) (nI b0) (nI p) a q := by
  have co100 : ∀ b n, b < 5 → tn_CO co (tn_pt e b n) (b + 1) ≤ 100 := by
    intro b n hb
    have := tn_sm_bd (f := fun i => co (tn_cd (tn_pt e b n i) (tn_pt e b n (i + 1)))) (b := 20) (n := b + 1) (fun i _ => hco _)
    unfold tn_CO
    omega
  have inner : ∀ (J8 : tn_JY) (b : Nat), b < 5 →
      (∀ (le bl bc : Int32) (pa be : Nat → Int32), tn_SC (tn_EU th up cl a ca bw pr ln nd q p b0) co e b (6 ^ b) bl bc be → J8 (nI (b + 1)) le bl bc th (tn_I co) (tn_I ca) cl up wa (tn_I en) (tn_I bw) (tn_I pr) av (tn_I ln) (tn_I nd) pa be) →
      ∀ d n (le bl bc : Int32) (pa be : Nat → Int32), n + d = 6 ^ b → tn_SC (tn_EU th up cl a ca bw pr ln nd q p b0) co e b n bl bc be → wY_findBest_17 post J8 (nI e) (nI b0) (nI p) a q (nI b) (d + 1) (nI n) le bl bc th (tn_I co) (tn_I ca) cl up wa (tn_I en) (tn_I bw) (tn_I pr) av (tn_I ln) (tn_I nd) pa be := by
    intro J8 b hb hJ d
    have h6 := tn_p6 hb
    induction d with
    | zero =>
      intro n le bl bc pa be hnd S
      have : n = 6 ^ b := by omega
      subst this
      rw [wY_findBest_17]
      refine tn_y_nums hb ?_
      exact br_t (Int32.le_refl _) (nm_r (nI_1 b) (hJ le bl bc pa be S))
    | succ d ih =>
      intro n le bl bc pa be hnd S
      have hn6 : n < 6 ^ b := by omega
      rw [wY_findBest_17]
      refine tn_y_nums hb ?_
      refine br_f (nI_ge hn6 (by omega)) ?_
      refine tn_y_mk he hb hn6 fun pa' ep => ⟨fun D => br_f (by decide) ?_, fun D => br_t rfl (nm_r (nI_1 n) (ih (n + 1) _ bl bc pa' be (by omega) (tn_SC_skip S fun v => D v.1)))⟩
      have hf6 : ∀ i, i < b + 1 + 1 → tn_pt e b n i < 6 := fun i _ => tn_pt_lt he
      refine tn_y_width (m := b + 1) (f := tn_pt e b n) (by omega) (by omega) hp hpr hl hn hca hbw hf6 ep fun r W => ?_
      have W2 := tn_WS_lt W hb1 hb2
      refine br_c (fun z => nm_r (nI_1 n) (ih (n + 1) _ bl bc pa' be (by omega) (tn_SC_skip S fun v => W2.1 z v.2))) (fun z => ?_)
      have V : tn_VA (tn_EU th up cl a ca bw pr ln nd q p b0) e b n := ⟨D, Classical.byContradiction fun y => z (W2.2 y)⟩
      have take : (bl = 0 ∨ ∀ b1 n1, b1 < 5 → n1 < 6 ^ b1 → tn_VA (tn_EU th up cl a ca bw pr ln nd q p b0) e b1 n1 → bc = nI (tn_CO co (tn_pt e b1 n1) (b1 + 1)) → tn_CO co (tn_pt e b n) (b + 1) < tn_CO co (tn_pt e b1 n1) (b1 + 1)) →
          wY_findBest_71 post J8 (wY_findBest_17 post J8 (nI e) (nI b0) (nI p) a q (nI b) (d + 1)) (nI e) (nI b0) (nI p) a q (nI b) (nI n) (nI (b + 2)) bl bc th (tn_I co) (tn_I ca) cl up wa (tn_I en) (tn_I bw) (tn_I pr) av (tn_I ln) (tn_I nd) pa' be := by
        intro hc
        refine tn_y_take (m := b + 1) (f := tn_pt e b n) (by omega) hf6 ep fun be' eb => ?_
        rw [nI_1]
        exact ih (n + 1) _ _ _ pa' be' (by omega) (tn_SC_take S hb hn6 V hc rfl rfl eb)
      refine br_c (fun z0 => take (Or.inl z0)) (fun z0 => ?_)
      refine tn_y_pcost (m := b + 1) (f := tn_pt e b n) (by omega) hf6 ep ?_
      have c1 := co100 b n hb
      rcases S with ⟨h1, h2⟩ | ⟨b1, n1, g1, g2, g3, g4, g5, g6, g7, g8⟩
      · exact absurd h1 z0
      · have c2 := co100 b1 n1 g1
        refine pk_le _ _ (fun l => nm_r (nI_1 n) (ih (n + 1) _ bl bc pa' be (by omega) (tn_SC_keep g1 g2 g3 g4 g5 g6 g7 g8 l))) (fun l => take (Or.inr fun b2 n2 k1 k2 k3 k4 => ?_)) g6 rfl (by omega) (by omega)
        have c3 := co100 b2 n2 k1
        rw [g6, nI_eq (by omega) (by omega)] at k4
        omega
  have outer : ∀ d b (le bl bc : Int32) (pa be : Nat → Int32), b + d = 5 → tn_SC (tn_EU th up cl a ca bw pr ln nd q p b0) co e b 0 bl bc be → wY_findBest_8 post (nI e) (nI b0) (nI p) a q (d + 1) (nI b) le bl bc th (tn_I co) (tn_I ca) cl up wa (tn_I en) (tn_I bw) (tn_I pr) av (tn_I ln) (tn_I nd) pa be := by
    intro d
    induction d with
    | zero =>
      intro b le bl bc pa be hb S
      have : b = 5 := by omega
      subst this
      obtain ⟨p0, p1⟩ := h le bl bc pa be
      refine br_t (by decide) ?_
      rcases tn_SC_fin S with ⟨h1, h2⟩ | ⟨b, n, h1, h2, h3, h4⟩
      · exact br_t (by rw [h1]; decide) (p0 h1 h2)
      · refine br_f ?_ (p1 b n h1 h2 h3 h4)
        have := h1.1
        rw [h2]
        exact nI_nle (by omega) (by omega)
    | succ d ih =>
      intro b le bl bc pa be hb S
      refine br_f (nI_ge (b := 5) (by omega) (by decide)) ⟨6 ^ b + 1, ?_⟩
      exact inner _ b (by omega) (fun le bl bc pa be S => ih (b + 1) le bl bc pa be (by omega) (tn_SC_b S)) (6 ^ b) 0 le bl bc pa be (by omega) S
  exact ⟨6, outer 5 0 le 0 bc pa be (by omega) tn_SC_0⟩
theorem tn_y_place {post : SY → Prop} {t L : Nat} {f : Nat → Nat} (ht : t < 8) (hL : L ≤ 6) (ef : ∀ i, i < L → be i = nI (f i))
    (h : post (le, nI L, bc, th, tn_I co, tn_I ca, cl, up, wa, tn_I en, tn_I bw, tn_I pr, av, tn_I (tn_up ln t L), tn_I (tn_pl nd t L f), pa, be)) : wpY_place post (le, nI L, bc, th, tn_I co, tn_I ca, cl, up, wa, tn_I en, tn_I bw, tn_I pr, av, tn_I ln, tn_I nd, pa, be) (nI t) := by
  have v := tn_v8 ht
  have key : ∀ d i, i + d = L → wY_place_12 post (nI t) le (nI L) bc (d + 1) (nI i) th (tn_I co) (tn_I ca) cl up wa (tn_I en) (tn_I bw) (tn_I pr) av (tn_I (tn_up ln t L)) (tn_I (tn_pl nd t i f)) pa be := by
    intro d
    induction d with
    | zero =>
      intro i hi
      have : i = L := by omega
      subst this
      exact br_t (Int32.le_refl _) h
    | succ d ih =>
      intro i hi
      refine br_f (nI_ge (by omega) (by omega)) ⟨tn_v6 (by omega), ?_⟩
      rw [tn_6ab, nI_clamp (show 6 * t + i < 2 ^ 31 by omega), nI_clamp (show i < 2 ^ 31 by omega), ef i (by omega)]
      exact ⟨tn_v48 (by omega), nm_r (tn_pl_s nd f t i) (nm_r (nI_1 i) (ih (i + 1) (by omega)))⟩
  refine ⟨v, nm_r ((congrArg (fun z => upd (tn_I ln) z (nI L)) (nI_clamp (by omega))).trans (tn_up_I ln t L)) ⟨L + 1, ?_⟩⟩
  have k := key L 0 (by omega)
  rw [tn_pl_0] at k
  exact k
end
end
section
/-! broken tunnels, overloaded links, their victims, the count -/
def tn_SX (st wa : Nat → Int32) (ln : Nat → Nat) : Prop := ∀ t, t < 8 → (wa t = 0 → st t = 0) ∧ (wa t ≠ 0 → ln t = 0 → st t = 1) ∧ (wa t ≠ 0 → ln t ≠ 0 → st t = 2)
def tn_MV (wa : Nat → Int32) (en ln nd : Nat → Nat) : Prop :=
  (∀ t, ln t ≤ 6) ∧ (∀ i, nd i < 6) ∧ (∀ t, ln t ≠ 0 → wa t ≠ 0) ∧ ∀ t, t < 8 → ln t ≠ 0 → ∃ b n, b < 5 ∧ n < 6 ^ b ∧ tn_DI (en t) b n ∧ ln t = b + 2 ∧ ∀ i, i < b + 2 → nd (6 * t + i) = tn_pt (en t) b n i
theorem tn_MV_drop {wa : Nat → Int32} {en ln nd : Nat → Nat} {t : Nat} (h : tn_MV wa en ln nd) : tn_MV wa en (tn_up ln t 0) nd := by
  obtain ⟨h1, h2, h3, h4⟩ := h
  refine ⟨tn_up_le h1 (by omega), h2, fun s hs => ?_, fun s hs hl => ?_⟩
  · by_cases z : s = t
    · subst z; rw [tn_up_s] at hs; exact absurd rfl hs
    · rw [tn_up_n z] at hs; exact h3 s hs
  · by_cases z : s = t
    · subst z; rw [tn_up_s] at hl; exact absurd rfl hl
    · rw [tn_up_n z] at hl ⊢; exact h4 s hs hl
theorem tn_SX_drop {st wa : Nat → Int32} {ln : Nat → Nat} {t : Nat} (h : tn_SX st wa ln) (hw : wa t ≠ 0) : tn_SX (upd st t 1) wa (tn_up ln t 0) := by
  intro s hs
  by_cases z : s = t
  · subst z
    rw [pk_us, tn_up_s]
    exact ⟨fun y => absurd y hw, fun _ _ => rfl, fun _ y => absurd rfl y⟩
  · rw [pk_un z, tn_up_n z]
    exact h s hs
theorem tn_ov_ne {ln nd : Nat → Nat} {t c : Nat} (h : tn_ov ln nd t c) : ln t ≠ 0 := by
  obtain ⟨i, a, -⟩ := h
  omega
/-- what one step of the drop does -/
noncomputable def tn_F (th up cl av : Nat → Int32) (nd : Nat → Nat) (t c : Nat) (l : Nat → Nat) : Nat → Nat := @ite _ (tn_ov l nd t c ∧ ¬ tn_OP th up cl (av t) c) (Classical.propDecidable _) (tn_up l t 0) l
noncomputable def tn_G (th up cl av : Nat → Int32) (nd : Nat → Nat) (t : Nat) (l : Nat → Nat) : Nat → Nat → Nat
  | 0 => l
  | c + 1 => tn_F th up cl av nd t c (tn_G th up cl av nd t l c)
noncomputable def tn_H (th up cl av : Nat → Int32) (nd : Nat → Nat) (l : Nat → Nat) : Nat → Nat → Nat
  | 0 => l
  | t + 1 => tn_G th up cl av nd t (tn_H th up cl av nd l t) 36
section
variable {fl le bl bc : Int32} {th up cl av st wa op rk fn pa be : Nat → Int32} {co ca en bw pr ln nd : Nat → Nat} {tl : Nat → Int64}
theorem tn_F_t {t c : Nat} {l : Nat → Nat} (h : tn_ov l nd t c) (h2 : ¬ tn_OP th up cl (av t) c) : tn_F th up cl av nd t c l = tn_up l t 0 := by unfold tn_F; rw [if_pos ⟨h, h2⟩]
theorem tn_F_f {t c : Nat} {l : Nat → Nat} (h : ¬ (tn_ov l nd t c ∧ ¬ tn_OP th up cl (av t) c)) : tn_F th up cl av nd t c l = l := by unfold tn_F; rw [if_neg h]
theorem tn_G_MV {t : Nat} (h : tn_MV wa en ln nd) : ∀ c, tn_MV wa en (tn_G th up cl av nd t ln c) nd
  | 0 => h
  | c + 1 => by
    have a := tn_G_MV (t := t) h c
    simp only [tn_G]
    rcases Classical.em (tn_ov (tn_G th up cl av nd t ln c) nd t c ∧ ¬ tn_OP th up cl (av t) c) with z | z
    · rw [tn_F_t z.1 z.2]; exact tn_MV_drop a
    · rw [tn_F_f z]; exact a
theorem tn_H_MV (h : tn_MV wa en ln nd) : ∀ t, tn_MV wa en (tn_H th up cl av nd ln t) nd
  | 0 => h
  | t + 1 => tn_G_MV (tn_H_MV h t) 36
theorem tn_G_ov {t : Nat} : ∀ c s d, tn_ov (tn_G th up cl av nd t ln c) nd s d → tn_ov ln nd s d ∧ (s = t → d < c → tn_OP th up cl (av t) d)
  | 0, s, d, h => ⟨h, fun _ z => absurd z (Nat.not_lt_zero d)⟩
  | c + 1, s, d, h => by
    simp only [tn_G] at h
    rcases Classical.em (tn_ov (tn_G th up cl av nd t ln c) nd t c ∧ ¬ tn_OP th up cl (av t) c) with z | z
    · rw [tn_F_t z.1 z.2] at h
      by_cases y : s = t
      · subst y; exact absurd h tn_ov_0
      · rw [tn_ov_n y] at h
        exact ⟨(tn_G_ov c s d h).1, fun w => absurd w y⟩
    · rw [tn_F_f z] at h
      have q := tn_G_ov c s d h
      refine ⟨q.1, fun w1 w2 => ?_⟩
      by_cases y : d = c
      · subst y; subst w1
        exact Classical.byContradiction fun o => z ⟨h, o⟩
      · exact q.2 w1 (by omega)
theorem tn_H_ov : ∀ t s d, tn_ov (tn_H th up cl av nd ln t) nd s d → tn_ov ln nd s d ∧ (s < t → d < 36 → tn_OP th up cl (av s) d)
  | 0, s, d, h => ⟨h, fun z => absurd z (Nat.not_lt_zero s)⟩
  | t + 1, s, d, h => by
    have a := tn_G_ov 36 s d h
    have b := tn_H_ov t s d a.1
    refine ⟨b.1, fun z1 z2 => ?_⟩
    by_cases y : s = t
    · subst y; exact a.2 rfl z2
    · exact b.2 (by omega) z2
theorem tn_x_drop {post : SX → Prop} (hM : tn_MV wa en ln nd) (hS : tn_SX st wa ln) (hT : tn_TL tl ln nd)
    (h : ∀ (st' : Nat → Int32) (tl' : Nat → Int64), tn_SX st' wa (tn_H th up cl av nd ln 8) → tn_TL tl' (tn_H th up cl av nd ln 8) nd → post (fl, th, up, tn_I co, tn_I ca, cl, st', tn_I en, tn_I bw, tn_I pr, av, tl', tn_I nd, tn_I (tn_H th up cl av nd ln 8), op, rk, fn)) : wpX_dropBroken post (fl, th, up, tn_I co, tn_I ca, cl, st, tn_I en, tn_I bw, tn_I pr, av, tl, tn_I nd, tn_I ln, op, rk, fn) := by
  have inner : ∀ (J : Int32 → Int32 → (Nat → Int32) → (Nat → Int32) → (Nat → Int32) → (Nat → Int32) → (Nat → Int32) → (Nat → Int32) → (Nat → Int32) → (Nat → Int32) → (Nat → Int32) → (Nat → Int32) → (Nat → Int64) → (Nat → Int32) → (Nat → Int32) → (Nat → Int32) → (Nat → Int32) → (Nat → Int32) → Prop) (t : Nat) (l : Nat → Nat), t < 8 → tn_MV wa en l nd →
      (∀ (st' : Nat → Int32) (tl' : Nat → Int64), tn_SX st' wa (tn_G th up cl av nd t l 36) → tn_TL tl' (tn_G th up cl av nd t l 36) nd → J (nI (t + 1)) fl th up (tn_I co) (tn_I ca) cl st' (tn_I en) (tn_I bw) (tn_I pr) av tl' (tn_I nd) (tn_I (tn_G th up cl av nd t l 36)) op rk fn) →
      ∀ d c (st : Nat → Int32) (tl : Nat → Int64), c + d = 36 → tn_SX st wa (tn_G th up cl av nd t l c) → tn_TL tl (tn_G th up cl av nd t l c) nd → wX_dropBroken_10 post J (nI t) (d + 1) (nI c) fl th up (tn_I co) (tn_I ca) cl st (tn_I en) (tn_I bw) (tn_I pr) av tl (tn_I nd) (tn_I (tn_G th up cl av nd t l c)) op rk fn := by
    intro J t l ht hMl hJ d
    induction d with
    | zero =>
      intro c st tl hc S T
      have : c = 36 := by omega
      subst this
      exact br_t (by decide) (nm_r (nI_1 t) (hJ st tl S T))
    | succ d ih =>
      intro c st tl hc S T
      have stay : ¬ (tn_ov (tn_G th up cl av nd t l c) nd t c ∧ ¬ tn_OP th up cl (av t) c) → wX_dropBroken_10 post J (nI t) (d + 1) (nI (c + 1)) fl th up (tn_I co) (tn_I ca) cl st (tn_I en) (tn_I bw) (tn_I pr) av tl (tn_I nd) (tn_I (tn_G th up cl av nd t l c)) op rk fn := by
        intro z
        have q := ih (c + 1) st tl (by omega)
        simp only [tn_G, tn_F_f z] at q
        exact q S T
      rw [wX_dropBroken_10]
      refine br_f (tn_i36 (by omega)) (tn_x_isOver ht (by omega) T (fun z => br_f (by decide) ⟨tn_v8 ht, ?_⟩) (fun z => br_t rfl (nm_r (nI_1 c) (stay fun y => z y.1))))
      rw [tn_cl av (by omega)]
      refine tn_x_use (by omega) (fun o => br_f (by decide) (nm_r (nI_1 c) (stay fun y => y.2 o))) (fun o => br_t rfl (tn_x_idle ht (nm_r (nI_1 c) ?_)))
      have q := ih (c + 1) (upd st t 1) (vp_updL tl t 0) (by omega)
      simp only [tn_G, tn_F_t z o] at q
      exact q (tn_SX_drop S ((tn_G_MV hMl c).2.2.1 t (tn_ov_ne z))) (tn_TL_idle T)
  have outer : ∀ d t (st : Nat → Int32) (tl : Nat → Int64), t + d = 8 → tn_SX st wa (tn_H th up cl av nd ln t) → tn_TL tl (tn_H th up cl av nd ln t) nd → wX_dropBroken_2 post (d + 1) (nI t) fl th up (tn_I co) (tn_I ca) cl st (tn_I en) (tn_I bw) (tn_I pr) av tl (tn_I nd) (tn_I (tn_H th up cl av nd ln t)) op rk fn := by
    intro d
    induction d with
    | zero =>
      intro t st tl ht S T
      have : t = 8 := by omega
      subst this
      exact br_t (by decide) (h st tl S T)
    | succ d ih =>
      intro t st tl ht S T
      exact br_f (tn_i8 (by omega)) ⟨37, inner _ t _ (by omega) (tn_H_MV hM t) (fun st' tl' S' T' => ih (t + 1) st' tl' (by omega) S' T') 36 0 st tl (by omega) S T⟩
  exact ⟨9, outer 8 0 st tl (by omega) hS hT⟩
theorem tn_y_drop {post : SY → Prop} (hM : tn_MV wa en ln nd) (h : post (le, bl, bc, th, tn_I co, tn_I ca, cl, up, wa, tn_I en, tn_I bw, tn_I pr, av, tn_I (tn_H th up cl av nd ln 8), tn_I nd, pa, be)) : wpY_pushFromClosed post (le, bl, bc, th, tn_I co, tn_I ca, cl, up, wa, tn_I en, tn_I bw, tn_I pr, av, tn_I ln, tn_I nd, pa, be) := by
  have inner : ∀ (J : Int32 → (Nat → Int32) → (Nat → Int32) → (Nat → Int32) → (Nat → Int32) → (Nat → Int32) → (Nat → Int32) → (Nat → Int32) → (Nat → Int32) → (Nat → Int32) → (Nat → Int32) → (Nat → Int32) → (Nat → Int32) → (Nat → Int32) → (Nat → Int32) → Prop) (t : Nat) (l : Nat → Nat), t < 8 → tn_MV wa en l nd →
      J (nI (t + 1)) th (tn_I co) (tn_I ca) cl up wa (tn_I en) (tn_I bw) (tn_I pr) av (tn_I (tn_G th up cl av nd t l 36)) (tn_I nd) pa be →
      ∀ d c, c + d = 36 → wY_pushFromClosed_10 post J (nI t) le bl bc (d + 1) (nI c) th (tn_I co) (tn_I ca) cl up wa (tn_I en) (tn_I bw) (tn_I pr) av (tn_I (tn_G th up cl av nd t l c)) (tn_I nd) pa be := by
    intro J t l ht hMl hJ d
    induction d with
    | zero =>
      intro c hc
      have : c = 36 := by omega
      subst this
      exact br_t (by decide) (nm_r (nI_1 t) hJ)
    | succ d ih =>
      intro c hc
      have q := ih (c + 1) (by omega)
      have M := tn_G_MV (th := th) (up := up) (cl := cl) (av := av) (t := t) hMl c
      have stay : ¬ (tn_ov (tn_G th up cl av nd t l c) nd t c ∧ ¬ tn_OP th up cl (av t) c) → wY_pushFromClosed_10 post J (nI t) le bl bc (d + 1) (nI (c + 1)) th (tn_I co) (tn_I ca) cl up wa (tn_I en) (tn_I bw) (tn_I pr) av (tn_I (tn_G th up cl av nd t l c)) (tn_I nd) pa be := by
        intro z
        simp only [tn_G, tn_F_f z] at q
        exact q
      rw [wY_pushFromClosed_10]
      refine br_f (tn_i36 (by omega)) (tn_y_isOver ht (by omega) M.1 M.2.1 (fun z => br_f (by decide) ⟨tn_v8 ht, ?_⟩) (fun z => br_t rfl (nm_r (nI_1 c) (stay fun y => z y.1))))
      rw [tn_cl av (by omega)]
      refine tn_y_use (by omega) (fun o => br_f (by decide) (nm_r (nI_1 c) (stay fun y => y.2 o))) (fun o => br_t rfl ⟨tn_v8 ht, nm_r ((congrArg (fun z => upd (tn_I (tn_G th up cl av nd t l c)) z 0) (nI_clamp (by omega))).trans (tn_up_I _ t 0)) (nm_r (nI_1 c) ?_)⟩)
      simp only [tn_G, tn_F_t z o] at q
      exact q
  have outer : ∀ d t, t + d = 8 → wY_pushFromClosed_2 post le bl bc (d + 1) (nI t) th (tn_I co) (tn_I ca) cl up wa (tn_I en) (tn_I bw) (tn_I pr) av (tn_I (tn_H th up cl av nd ln t)) (tn_I nd) pa be := by
    intro d
    induction d with
    | zero =>
      intro t ht
      have : t = 8 := by omega
      subst this
      exact br_t (by decide) h
    | succ d ih =>
      intro t ht
      exact br_f (tn_i8 (by omega)) ⟨37, inner _ t _ (by omega) (tn_H_MV hM t) (ih (t + 1) (by omega)) 36 0 (by omega)⟩
  exact ⟨9, outer 8 0 (by omega)⟩
def tn_VI (pr ln nd : Nat → Nat) (c o : Nat) : Prop := o < 8 ∧ tn_ov ln nd o c ∧ ∀ s, s < 8 → tn_ov ln nd s c → pr s < pr o ∨ (pr s = pr o ∧ s ≤ o)
theorem tn_VI_uniq {c o o' : Nat} (h : tn_VI pr ln nd c o) (h' : tn_VI pr ln nd c o') : o = o' := by
  have a := h.2.2 o' h'.1 h'.2.1
  have b := h'.2.2 o h.1 h.2.1
  omega
theorem tn_x_least {post : Int32 → Prop} {c : Nat} (hc : c < 36) (hpr : ∀ t, pr t ≤ 3) (hT : tn_TL tl ln nd) (hx : ∃ t, t < 8 ∧ tn_ov ln nd t c) (h : ∀ o, tn_VI pr ln nd c o → post (nI o)) : wpX_leastUrgentOver post (fl, th, up, tn_I co, tn_I ca, cl, st, tn_I en, tn_I bw, tn_I pr, av, tl, tn_I nd, tn_I ln, op, rk, fn) (nI c) := by
  have key : ∀ d i (x y : Int32), i + d = 8 → ((x = -1 ∧ y = 0 ∧ ∀ s, s < i → ¬ tn_ov ln nd s c) ∨ ∃ o, o < i ∧ x = nI o ∧ y = nI (pr o) ∧ tn_ov ln nd o c ∧ ∀ s, s < i → tn_ov ln nd s c → pr s < pr o ∨ (pr s = pr o ∧ s ≤ o)) → wX_leastUrgentOver_7 post (nI c) fl th up (tn_I co) (tn_I ca) cl st (tn_I en) (tn_I bw) (tn_I pr) av tl (tn_I nd) (tn_I ln) op rk fn (d + 1) x y (nI i) := by
    intro d
    induction d with
    | zero =>
      intro i x y hi I
      have : i = 8 := by omega
      subst this
      rcases I with ⟨-, -, I⟩ | ⟨o, ho, rfl, -, a, b⟩
      · obtain ⟨t, ht, z⟩ := hx
        exact absurd z (I t ht)
      · exact br_t (by decide) (h o ⟨ho, a, b⟩)
    | succ d ih =>
      intro i x y hi I
      have p3 := hpr i
      refine br_f (tn_i8 (by omega)) (tn_x_isOver (by omega) hc hT (fun z => br_f (by decide) ⟨tn_v8 (by omega), ?_⟩) (fun z => br_t rfl (nm_r (nI_1 i) (ih (i + 1) x y (by omega) ?_))))
      · rw [tn_cl (tn_I pr) (by omega)]
        rcases I with ⟨rfl, rfl, I⟩ | ⟨o, ho, rfl, rfl, a, b⟩
        · refine br_f (nI_pos (by omega)) ⟨tn_v8 (by omega), nm_e (nm_r (nI_1 i) (ih (i + 1) _ _ (by omega) (Or.inr ⟨i, by omega, rfl, rfl, z, fun s hs hv => ?_⟩)))⟩
          by_cases y : s = i
          · subst y; exact Or.inr ⟨rfl, Nat.le_refl _⟩
          · exact absurd hv (I s (by omega))
        · have p4 := hpr o
          refine pk_lt (pr i) (pr o) (fun l => nm_r (nI_1 i) (ih (i + 1) _ _ (by omega) (Or.inr ⟨o, by omega, rfl, rfl, a, fun s hs hv => ?_⟩))) (fun l => ⟨tn_v8 (by omega), nm_e (nm_r (nI_1 i) (ih (i + 1) _ _ (by omega) (Or.inr ⟨i, by omega, rfl, rfl, z, fun s hs hv => ?_⟩)))⟩)
          · by_cases y : s = i
            · subst y; exact Or.inl l
            · exact b s (by omega) hv
          · by_cases y : s = i
            · subst y; exact Or.inr ⟨rfl, Nat.le_refl _⟩
            · have := b s (by omega) hv
              omega
      · rcases I with ⟨e1, e2, I⟩ | ⟨o, ho, e1, e2, a, b⟩
        · refine Or.inl ⟨e1, e2, fun s hs => ?_⟩
          by_cases y : s = i
          · subst y; exact z
          · exact I s (by omega)
        · refine Or.inr ⟨o, by omega, e1, e2, a, fun s hs hv => ?_⟩
          by_cases y : s = i
          · subst y; exact absurd hv z
          · exact b s (by omega) hv
  exact ⟨9, key 8 0 (-1) 0 (by omega) (Or.inl ⟨rfl, rfl, fun s hs => absurd hs (Nat.not_lt_zero s)⟩)⟩
def tn_OL (th : Nat → Int32) (ca bw ln nd : Nat → Nat) (c : Nat) : Prop := th c ≠ 0 ∧ ca c < tn_ld bw ln nd c
theorem tn_x_first {post : Int32 → Prop} (hca : ∀ c, ca c ≤ 100) (hbw : ∀ t, bw t ≤ 100) (hT : tn_TL tl ln nd) (h0 : (∀ c, c < 36 → ¬ tn_OL th ca bw ln nd c) → post (-1)) (h1 : ∀ c, c < 36 → tn_OL th ca bw ln nd c → (∀ d, d < c → ¬ tn_OL th ca bw ln nd d) → post (nI c)) : wpX_firstOverloaded post (fl, th, up, tn_I co, tn_I ca, cl, st, tn_I en, tn_I bw, tn_I pr, av, tl, tn_I nd, tn_I ln, op, rk, fn) := by
  have key : ∀ d i, i + d = 36 → (∀ c, c < i → ¬ tn_OL th ca bw ln nd c) → wX_firstOverloaded_2 post fl th up (tn_I co) (tn_I ca) cl st (tn_I en) (tn_I bw) (tn_I pr) av tl (tn_I nd) (tn_I ln) op rk fn (d + 1) (nI i) := by
    intro d
    induction d with
    | zero =>
      intro i hi I
      have : i = 36 := by omega
      subst this
      exact br_t (by decide) (h0 I)
    | succ d ih =>
      intro i hi I
      have nx : ¬ tn_OL th ca bw ln nd i → wX_firstOverloaded_2 post fl th up (tn_I co) (tn_I ca) cl st (tn_I en) (tn_I bw) (tn_I pr) av tl (tn_I nd) (tn_I ln) op rk fn (d + 1) (nI (i + 1)) := fun z => ih (i + 1) (by omega) fun c hc => by
        by_cases y : c = i
        · subst y; exact z
        · exact I c (by omega)
      have l1 := hca i
      have l2 := tn_ld_le (ln := ln) (nd := nd) hbw i
      refine br_f (tn_i36 (by omega)) ⟨tn_v36 (by omega), ?_⟩
      rw [tn_cl th (by omega)]
      refine br_c (fun z => nm_r (nI_1 i) (nx fun y => y.1 z)) (fun z => tn_x_load (by omega) hT ⟨tn_v36 (by omega), ?_⟩)
      rw [tn_cl (tn_I ca) (by omega)]
      exact pk_le (tn_ld bw ln nd i) (ca i) (fun l => nm_r (nI_1 i) (nx fun y => by have := y.2; omega)) (fun l => h1 i (by omega) ⟨z, l⟩ I)
  exact ⟨37, key 36 0 (by omega) (fun c hc => absurd hc (Nat.not_lt_zero c))⟩
theorem tn_y_full {post : Int32 → SY → Prop} (hca : ∀ c, ca c ≤ 100) (hbw : ∀ t, bw t ≤ 100) (hpr : ∀ t, pr t ≤ 3) (hl : ∀ t, ln t ≤ 6) (hn : ∀ i, nd i < 6) (h0 : (∀ c, c < 36 → ¬ tn_OL th ca bw ln nd c) → post 0 (le, bl, bc, th, tn_I co, tn_I ca, cl, up, wa, tn_I en, tn_I bw, tn_I pr, av, tn_I ln, tn_I nd, pa, be)) (h1 : ∀ c o, c < 36 → tn_OL th ca bw ln nd c → (∀ d, d < c → ¬ tn_OL th ca bw ln nd d) → tn_VI pr ln nd c o → post 1 (le, bl, bc, th, tn_I co, tn_I ca, cl, up, wa, tn_I en, tn_I bw, tn_I pr, av, tn_I (tn_up ln o 0), tn_I nd, pa, be)) : wpY_pushFromFull post (le, bl, bc, th, tn_I co, tn_I ca, cl, up, wa, tn_I en, tn_I bw, tn_I pr, av, tn_I ln, tn_I nd, pa, be) := by
  have vic : ∀ c, c < 36 → tn_OL th ca bw ln nd c → (∀ d, d < c → ¬ tn_OL th ca bw ln nd d) → ∀ d i (x : Int32), i + d = 8 → ((x = -1 ∧ ∀ s, s < i → ¬ tn_ov ln nd s c) ∨ ∃ o, o < i ∧ x = nI o ∧ tn_ov ln nd o c ∧ ∀ s, s < i → tn_ov ln nd s c → pr s < pr o ∨ (pr s = pr o ∧ s ≤ o)) → wY_pushFromFull_31 post (nI c) le bl bc th (tn_I co) (tn_I ca) cl up wa (tn_I en) (tn_I bw) (tn_I pr) av (tn_I ln) (tn_I nd) pa be (d + 1) x (nI i) := by
    intro c hc hO hle d
    induction d with
    | zero =>
      intro i x hi I
      have : i = 8 := by omega
      subst this
      rcases I with ⟨-, I⟩ | ⟨o, ho, rfl, a, b⟩
      · have hp : 0 < tn_ld bw ln nd c := by have := hO.2; omega
        obtain ⟨t, ht, z⟩ := tn_sm_pos hp
        rw [tn_q_f (I t ht)] at z
        omega
      · exact br_t (by decide) ⟨tn_v8 ho, nm_r ((congrArg (fun z => upd (tn_I ln) z 0) (nI_clamp (by omega))).trans (tn_up_I ln o 0)) (h1 c o hc hO hle ⟨ho, a, b⟩)⟩
    | succ d ih =>
      intro i x hi I
      have p3 := hpr i
      refine br_f (tn_i8 (by omega)) (tn_y_isOver (by omega) hc hl hn (fun z => br_f (by decide) ?_) (fun z => br_t rfl (nm_r (nI_1 i) (ih (i + 1) x (by omega) ?_))))
      · rcases I with ⟨rfl, I⟩ | ⟨o, ho, rfl, a, b⟩
        · refine br_t (by decide) (nm_r (nI_1 i) (ih (i + 1) _ (by omega) (Or.inr ⟨i, by omega, rfl, z, fun s hs hv => ?_⟩)))
          by_cases y : s = i
          · subst y; exact Or.inr ⟨rfl, Nat.le_refl _⟩
          · exact absurd hv (I s (by omega))
        · have p4 := hpr o
          refine br_f (nI_pos (by omega)) ⟨tn_v8 (by omega), tn_v8 (by omega), ?_⟩
          rw [tn_cl (tn_I pr) (by omega), tn_cl (tn_I pr) (by omega)]
          refine pk_lt (pr i) (pr o) (fun l => nm_r (nI_1 i) (ih (i + 1) _ (by omega) (Or.inr ⟨o, by omega, rfl, a, fun s hs hv => ?_⟩))) (fun l => nm_r (nI_1 i) (ih (i + 1) _ (by omega) (Or.inr ⟨i, by omega, rfl, z, fun s hs hv => ?_⟩)))
          · by_cases y : s = i
            · subst y; exact Or.inl l
            · exact b s (by omega) hv
          · by_cases y : s = i
            · subst y; exact Or.inr ⟨rfl, Nat.le_refl _⟩
            · have := b s (by omega) hv
              omega
      · rcases I with ⟨e1, I⟩ | ⟨o, ho, e1, a, b⟩
        · refine Or.inl ⟨e1, fun s hs => ?_⟩
          by_cases y : s = i
          · subst y; exact z
          · exact I s (by omega)
        · refine Or.inr ⟨o, by omega, e1, a, fun s hs hv => ?_⟩
          by_cases y : s = i
          · subst y; exact absurd hv z
          · exact b s (by omega) hv
  have key : ∀ d i, i + d = 36 → (∀ c, c < i → ¬ tn_OL th ca bw ln nd c) → wY_pushFromFull_2 post le bl bc th (tn_I co) (tn_I ca) cl up wa (tn_I en) (tn_I bw) (tn_I pr) av (tn_I ln) (tn_I nd) pa be (d + 1) (nI i) := by
    intro d
    induction d with
    | zero =>
      intro i hi I
      have : i = 36 := by omega
      subst this
      exact br_t (by decide) (h0 I)
    | succ d ih =>
      intro i hi I
      have nx : ¬ tn_OL th ca bw ln nd i → wY_pushFromFull_2 post le bl bc th (tn_I co) (tn_I ca) cl up wa (tn_I en) (tn_I bw) (tn_I pr) av (tn_I ln) (tn_I nd) pa be (d + 1) (nI (i + 1)) := fun z => ih (i + 1) (by omega) fun c hc => by
        by_cases y : c = i
        · subst y; exact z
        · exact I c (by omega)
      have l1 := hca i
      have l2 := tn_ld_le (ln := ln) (nd := nd) hbw i
      refine br_f (tn_i36 (by omega)) ⟨tn_v36 (by omega), ?_⟩
      rw [tn_cl th (by omega)]
      refine br_c (fun z => nm_r (nI_1 i) (nx fun y => y.1 z)) (fun z => tn_y_room (p := 3) (by omega) (by decide) hpr hl hn ?_)
      rw [tn_tk_ld hpr]
      have e : (0 : Int32) ≤ nI (ca i) - nI (tn_ld bw ln nd i) ↔ tn_ld bw ln nd i ≤ ca i := by
        rw [Int32.le_iff_toInt_le, pk_sub_toInt (by omega) (by omega), show (0 : Int32).toInt = 0 from by decide]
        omega
      refine br_c (fun l => nm_r (nI_1 i) (nx fun y => by have := y.2; have := e.1 l; omega)) (fun l => ⟨9, vic i (by omega) ⟨z, ?_⟩ I 8 0 (-1) (by omega) (Or.inl ⟨rfl, fun s hs => absurd hs (Nat.not_lt_zero s)⟩)⟩)
      have : ¬ tn_ld bw ln nd i ≤ ca i := fun y => l (e.2 y)
      omega
  exact ⟨37, key 36 0 (by omega) (fun c hc => absurd hc (Nat.not_lt_zero c))⟩
noncomputable def tn_np (ln : Nat → Nat) : Nat := tn_sm (fun t => tn_q (ln t ≠ 0) 1) 8
theorem tn_x_count {post : Int32 → Prop} (hM : ∀ t, ln t ≠ 0 → wa t ≠ 0) (hS : tn_SX st wa ln) (h : post (nI (tn_np ln))) : wpX_countPlaced post (fl, th, up, tn_I co, tn_I ca, cl, st, tn_I en, tn_I bw, tn_I pr, av, tl, tn_I nd, tn_I ln, op, rk, fn) := by
  have key : ∀ d i, i + d = 8 → wX_countPlaced_4 post fl th up (tn_I co) (tn_I ca) cl st (tn_I en) (tn_I bw) (tn_I pr) av tl (tn_I nd) (tn_I ln) op rk fn (d + 1) (nI (tn_sm (fun t => tn_q (ln t ≠ 0) 1) i)) (nI i) := by
    intro d
    induction d with
    | zero =>
      intro i hi
      have : i = 8 := by omega
      subst this
      exact br_t (by decide) h
    | succ d ih =>
      intro i hi
      have q := ih (i + 1) (by omega)
      have S := hS i (by omega)
      refine br_f (tn_i8 (by omega)) ⟨tn_v8 (by omega), ?_⟩
      rw [tn_cl st (by omega)]
      by_cases z : ln i = 0
      · have e : ¬ st i = 2 := by
          by_cases y : wa i = 0
          · rw [S.1 y]; decide
          · rw [S.2.1 y z]; decide
        refine br_f e (nm_r (nI_1 i) ?_)
        simp only [tn_sm, tn_q_f (show ¬ (ln i ≠ 0) from fun y => y z), Nat.add_zero] at q
        exact q
      · refine br_t (S.2.2 (hM i z) z) (nm_r (nI_1 _) (nm_r (nI_1 i) ?_))
        simp only [tn_sm, tn_q_t (show ln i ≠ 0 from z)] at q
        exact q
  exact ⟨9, key 8 0 (by omega)⟩
theorem tn_y_count {post : Int32 → Prop} (hl : ∀ t, ln t ≤ 6) (h : post (nI (tn_np ln))) : wpY_countPlaced post (le, bl, bc, th, tn_I co, tn_I ca, cl, up, wa, tn_I en, tn_I bw, tn_I pr, av, tn_I ln, tn_I nd, pa, be) := by
  have key : ∀ d i, i + d = 8 → wY_countPlaced_4 post le bl bc th (tn_I co) (tn_I ca) cl up wa (tn_I en) (tn_I bw) (tn_I pr) av (tn_I ln) (tn_I nd) pa be (d + 1) (nI (tn_sm (fun t => tn_q (ln t ≠ 0) 1) i)) (nI i) := by
    intro d
    induction d with
    | zero =>
      intro i hi
      have : i = 8 := by omega
      subst this
      exact br_t (by decide) h
    | succ d ih =>
      intro i hi
      have q := ih (i + 1) (by omega)
      have l6 := hl i
      refine br_f (tn_i8 (by omega)) ⟨tn_v8 (by omega), ?_⟩
      rw [tn_cl (tn_I ln) (by omega)]
      by_cases z : ln i = 0
      · refine br_t (by show nI (ln i) ≤ 0; rw [z]; decide) (nm_r (nI_1 i) ?_)
        simp only [tn_sm, tn_q_f (show ¬ (ln i ≠ 0) from fun y => y z), Nat.add_zero] at q
        exact q
      · refine br_f (nI_nle (by omega) (by omega)) (nm_r (nI_1 _) (nm_r (nI_1 i) ?_))
        simp only [tn_sm, tn_q_t (show ln i ≠ 0 from z)] at q
        exact q
  exact ⟨9, key 8 0 (by omega)⟩
end
end
section
/-! the first tunnel that fits is placed -/
def tn_FX (th wa : Nat → Int32) (co ca en bw pr : Nat → Nat) : Prop := tn_TH th ∧ (∀ c, co c ≤ 20) ∧ (∀ c, ca c ≤ 100) ∧ (∀ t, en t < 36) ∧ (∀ t, bw t ≤ 100) ∧ (∀ t, pr t ≤ 3) ∧ ∀ t, wa t ≠ 0 → en t / 6 ≠ en t % 6 ∧ 1 ≤ bw t
abbrev tn_Et (th up cl av : Nat → Int32) (ca bw pr ln nd : Nat → Nat) (t : Nat) : Nat → Prop := tn_EU th up cl (av t) ca bw pr ln nd (nI t) (pr t) (bw t)
def tn_CA (th up cl av wa : Nat → Int32) (en ca bw pr ln nd : Nat → Nat) (k : Nat) : Prop :=
  wa (k % 8) ≠ 0 ∧ ln (k % 8) = 0 ∧ pr (k % 8) = k / 8 ∧ ∃ b n, b < 5 ∧ n < 6 ^ b ∧ tn_VA (tn_Et th up cl av ca bw pr ln nd (k % 8)) (en (k % 8)) b n
section
variable {fl le bl bc : Int32} {th up cl av st wa op rk fn pa be : Nat → Int32} {co ca en bw pr ln nd : Nat → Nat} {tl : Nat → Int64}
theorem tn_SX_put {t L : Nat} {st' : Nat → Int32} (h : tn_SX st wa ln) (hw : wa t ≠ 0) (hL : L ≠ 0) (h1 : ∀ s, s ≠ t → st' s = st s) (h2 : st' t = 2) : tn_SX st' wa (tn_up ln t L) := by
  intro s hs
  by_cases z : s = t
  · subst z
    rw [tn_up_s]
    exact ⟨fun y => absurd y hw, fun _ y => absurd y hL, fun _ _ => h2⟩
  · rw [tn_up_n z, h1 s z]
    exact h s hs
theorem tn_x_pff {post : Int32 → SX → Prop} (hF : tn_FX th wa co ca en bw pr) (hM : tn_MV wa en ln nd) (hS : tn_SX st wa ln) (hT : tn_TL tl ln nd)
    (h0 : (∀ k, k < 32 → ¬ tn_CA th up cl av wa en ca bw pr ln nd k) → ∀ (op' rk' : Nat → Int32), post 0 (fl, th, up, tn_I co, tn_I ca, cl, st, tn_I en, tn_I bw, tn_I pr, av, tl, tn_I nd, tn_I ln, op', rk', fn))
    (h1 : ∀ k b n, k < 32 → (∀ j, j < k → ¬ tn_CA th up cl av wa en ca bw pr ln nd j) → tn_CA th up cl av wa en ca bw pr ln nd k → tn_BE (tn_Et th up cl av ca bw pr ln nd (k % 8)) co (en (k % 8)) b n →
      ∀ (fl' : Int32) (st' : Nat → Int32) (tl' : Nat → Int64) (op' rk' fn' : Nat → Int32), tn_SX st' wa (tn_up ln (k % 8) (b + 2)) → tn_TL tl' (tn_up ln (k % 8) (b + 2)) (tn_pl nd (k % 8) (b + 2) (tn_pt (en (k % 8)) b n)) →
        post 1 (fl', th, up, tn_I co, tn_I ca, cl, st', tn_I en, tn_I bw, tn_I pr, av, tl', tn_I (tn_pl nd (k % 8) (b + 2) (tn_pt (en (k % 8)) b n)), tn_I (tn_up ln (k % 8) (b + 2)), op', rk', fn')) : wpX_placeFirstFit post (fl, th, up, tn_I co, tn_I ca, cl, st, tn_I en, tn_I bw, tn_I pr, av, tl, tn_I nd, tn_I ln, op, rk, fn) := by
  obtain ⟨fTH, fco, fca, fen, fbw, fpr, fwa⟩ := hF
  have inner : ∀ (J : Int32 → Int32 → (Nat → Int32) → (Nat → Int32) → (Nat → Int32) → (Nat → Int32) → (Nat → Int32) → (Nat → Int32) → (Nat → Int32) → (Nat → Int32) → (Nat → Int32) → (Nat → Int32) → (Nat → Int64) → (Nat → Int32) → (Nat → Int32) → (Nat → Int32) → (Nat → Int32) → (Nat → Int32) → Prop) (p : Nat), p < 4 →
      ((∀ k, k < 8 * (p + 1) → ¬ tn_CA th up cl av wa en ca bw pr ln nd k) → ∀ (op rk : Nat → Int32), J (nI (p + 1)) fl th up (tn_I co) (tn_I ca) cl st (tn_I en) (tn_I bw) (tn_I pr) av tl (tn_I nd) (tn_I ln) op rk fn) →
      ∀ d t (op rk : Nat → Int32), t + d = 8 → (∀ k, k < 8 * p + t → ¬ tn_CA th up cl av wa en ca bw pr ln nd k) → wX_placeFirstFit_9 post J (nI p) (d + 1) (nI t) fl th up (tn_I co) (tn_I ca) cl st (tn_I en) (tn_I bw) (tn_I pr) av tl (tn_I nd) (tn_I ln) op rk fn := by
    intro J p hp hJ d
    induction d with
    | zero =>
      intro t op rk ht I
      have : t = 8 := by omega
      subst this
      exact br_t (by decide) (nm_r (nI_1 p) (hJ (fun k hk => I k (by omega)) op rk))
    | succ d ih =>
      intro t op rk ht I
      have ht8 : t < 8 := by omega
      have em : (8 * p + t) % 8 = t := by omega
      have ed : (8 * p + t) / 8 = p := by omega
      have nx : ∀ op rk : Nat → Int32, ¬ tn_CA th up cl av wa en ca bw pr ln nd (8 * p + t) → wX_placeFirstFit_9 post J (nI p) (d + 1) (nI (t + 1)) fl th up (tn_I co) (tn_I ca) cl st (tn_I en) (tn_I bw) (tn_I pr) av tl (tn_I nd) (tn_I ln) op rk fn := fun op rk z => ih (t + 1) op rk (by omega) fun k hk => by
        by_cases y : k = 8 * p + t
        · subst y; exact z
        · exact I k (by omega)
      have S := hS t ht8
      have p3 := fpr t
      have v := tn_v8 ht8
      rw [wX_placeFirstFit_9]
      refine br_f (tn_i8 ht8) ⟨v, ?_⟩
      rw [nI_clamp (show t < 2 ^ 31 by omega)]
      refine br_c (fun z => ⟨v, pk_eq (pr t) p (fun zp => ?_) (fun zp => nm_r (nI_1 t) (nx op rk fun y => zp (by have := y.2.2.1; rw [em, ed] at this; exact this)))⟩) (fun z => nm_r (nI_1 t) (nx op rk fun y => z (S.2.1 (by have := y.1; rw [em] at this; exact this) (by have := y.2.1; rw [em] at this; exact this))))
      have w0 : wa t ≠ 0 := fun y => by rw [S.1 y] at z; exact absurd z (by decide)
      have l0 : ln t = 0 := Classical.byContradiction fun y => by rw [S.2.2 w0 y] at z; exact absurd z (by decide)
      obtain ⟨e1, e2⟩ := fwa t w0
      have t36 := fen t
      refine tn_x_fit ht8 fTH fpr fca fbw e2 fco fen hT fun op' rk' k hop ek K => ⟨fun fit => br_f (by decide) ?_, fun fit => br_t rfl (nm_r (nI_1 t) (nx op' rk' fun y => fit ?_))⟩
      · refine tn_x_trace ht8 fen fbw hop fco ek K fit fun fn' f m hm5 R hg ef => ?_
        obtain ⟨b, n, hm, B, hp', -⟩ := tn_TR_best K (fen t) e1 R hg
        subst hm
        refine tn_x_place (L := b + 1 + 1) (f := f) ht8 (by omega) hM.1 (fun i hi => R.2.1 i (by omega)) (fun i hi => ef i (by omega)) hT fun st' tl' T' s1 s2 => ?_
        have ep : tn_pl nd t (b + 1 + 1) f = tn_pl nd t (b + 2) (tn_pt (en t) b n) := tn_pl_eq fun i hi => hp' i (by omega)
        have C : tn_CA th up cl av wa en ca bw pr ln nd (8 * p + t) := by
          unfold tn_CA
          rw [em, ed]
          exact ⟨w0, l0, zp, b, n, B.1, B.2.1, B.2.2.1⟩
        have q := h1 (8 * p + t) b n (by omega) I C
        rw [em] at q
        rw [ep] at T' ⊢
        exact q B _ st' tl' op' rk' fn' (tn_SX_put hS w0 (by omega) s1 s2) T'
      · obtain ⟨-, -, -, b, n, y1, y2, y3⟩ := y
        rw [em] at y3
        exact tn_VA_rk K t36 (fun c _ => fco c) y1 y3
  have outer : ∀ d p (op rk : Nat → Int32), p + d = 4 → (∀ k, k < 8 * p → ¬ tn_CA th up cl av wa en ca bw pr ln nd k) → wX_placeFirstFit_2 post (d + 1) (nI p) fl th up (tn_I co) (tn_I ca) cl st (tn_I en) (tn_I bw) (tn_I pr) av tl (tn_I nd) (tn_I ln) op rk fn := by
    intro d
    induction d with
    | zero =>
      intro p op rk hp I
      have : p = 4 := by omega
      subst this
      exact br_t (by decide) (h0 I op rk)
    | succ d ih =>
      intro p op rk hp I
      exact br_f (nI_ge (b := 4) (by omega) (by decide)) ⟨9, inner _ p (by omega) (fun I' op rk => ih (p + 1) op rk (by omega) I') 8 0 op rk (by omega) I⟩
  exact ⟨5, outer 4 0 op rk (by omega) (fun k hk => absurd hk (by omega))⟩
theorem tn_y_one {post : Int32 → SY → Prop} (hF : tn_FX th wa co ca en bw pr) (hM : tn_MV wa en ln nd)
    (h0 : (∀ k, k < 32 → ¬ tn_CA th up cl av wa en ca bw pr ln nd k) → ∀ (le' bl' bc' : Int32) (pa' be' : Nat → Int32), post 0 (le', bl', bc', th, tn_I co, tn_I ca, cl, up, wa, tn_I en, tn_I bw, tn_I pr, av, tn_I ln, tn_I nd, pa', be'))
    (h1 : ∀ k b n, k < 32 → (∀ j, j < k → ¬ tn_CA th up cl av wa en ca bw pr ln nd j) → tn_CA th up cl av wa en ca bw pr ln nd k → tn_BE (tn_Et th up cl av ca bw pr ln nd (k % 8)) co (en (k % 8)) b n →
      ∀ (le' bl' bc' : Int32) (pa' be' : Nat → Int32), post 1 (le', bl', bc', th, tn_I co, tn_I ca, cl, up, wa, tn_I en, tn_I bw, tn_I pr, av, tn_I (tn_up ln (k % 8) (b + 2)), tn_I (tn_pl nd (k % 8) (b + 2) (tn_pt (en (k % 8)) b n)), pa', be')) : wpY_placeOne post (le, bl, bc, th, tn_I co, tn_I ca, cl, up, wa, tn_I en, tn_I bw, tn_I pr, av, tn_I ln, tn_I nd, pa, be) := by
  obtain ⟨fTH, fco, fca, fen, fbw, fpr, fwa⟩ := hF
  have key : ∀ d k (le bl bc : Int32) (pa be : Nat → Int32), k + d = 32 → (∀ j, j < k → ¬ tn_CA th up cl av wa en ca bw pr ln nd j) → wY_placeOne_2 post (d + 1) (nI k) le bl bc th (tn_I co) (tn_I ca) cl up wa (tn_I en) (tn_I bw) (tn_I pr) av (tn_I ln) (tn_I nd) pa be := by
    intro d
    induction d with
    | zero =>
      intro k le bl bc pa be hk I
      have : k = 32 := by omega
      subst this
      exact br_t (by decide) (h0 I le bl bc pa be)
    | succ d ih =>
      intro k le bl bc pa be hk I
      have nx : ∀ (le bl bc : Int32) (pa be : Nat → Int32), ¬ tn_CA th up cl av wa en ca bw pr ln nd k → wY_placeOne_2 post (d + 1) (nI (k + 1)) le bl bc th (tn_I co) (tn_I ca) cl up wa (tn_I en) (tn_I bw) (tn_I pr) av (tn_I ln) (tn_I nd) pa be := fun le bl bc pa be z => ih (k + 1) le bl bc pa be (by omega) fun j hj => by
        by_cases y : j = k
        · subst y; exact z
        · exact I j (by omega)
      have m8 : k % 8 < 8 := by omega
      have v := tn_v8 m8
      have l6 := hM.1 (k % 8)
      have p3 := fpr (k % 8)
      have e36 := fen (k % 8)
      have b100 := fbw (k % 8)
      rw [wY_placeOne_2]
      refine br_f (nI_ge (b := 32) (by omega) (by decide)) ⟨tn_8, nm_r (tn_r8 (by omega)) ⟨v, ?_⟩⟩
      rw [nI_clamp (show k % 8 < 2 ^ 31 by omega), tn_d8 (show k < 2 ^ 31 by omega)]
      refine br_c (fun z => nm_r (nI_1 k) (nx le bl bc pa be fun y => y.1 z)) (fun z => ⟨v, pk_eq (ln (k % 8)) 0 (fun zl => ⟨v, tn_8, pk_eq (pr (k % 8)) (k / 8) (fun zp => ⟨v, v, tn_8, v, ?_⟩) (fun zp => nm_r (nI_1 k) (nx le bl bc pa be fun y => zp y.2.2.1))⟩) (fun zl => nm_r (nI_1 k) (nx le bl bc pa be fun y => zl y.2.1))⟩)
      obtain ⟨e1, e2⟩ := fwa _ z
      have E : tn_EU th up cl (av (k % 8)) ca bw pr ln nd (nI (k % 8)) (k / 8) (bw (k % 8)) = tn_Et th up cl av ca bw pr ln nd (k % 8) := by rw [← zp]
      refine tn_y_best e36 e2 b100 (by omega) fpr hM.1 hM.2.1 fca fbw fco fun le' bl' bc' pa' be' => ?_
      rw [E]
      refine ⟨fun hb0 hno => br_t rfl (nm_r (nI_1 k) (nx le' bl' bc' pa' be' fun y => ?_)), fun b n B hbl hbc hbe => br_f (by decide) ?_⟩
      · obtain ⟨-, -, -, b, n, y1, y2, y3⟩ := y
        exact hno b n y1 y2 y3
      · subst hbl
        have b5 := B.1
        exact tn_y_place (L := b + 2) (f := tn_pt (en (k % 8)) b n) m8 (by omega) hbe (h1 k b n (by omega) I ⟨z, zl, zp, b, n, B.1, B.2.1, B.2.2.1⟩ B le' _ bc' pa' be')
  exact ⟨33, key 32 0 le bl bc pa be (by omega) (fun j hj => absurd hj (Nat.not_lt_zero j))⟩
end
end
section
/-! a settling ends, and both sides end it alike -/
noncomputable def tn_ph (pr ln : Nat → Nat) (q : Nat) : Nat := tn_sm (fun t => tn_q (ln t ≠ 0 ∧ pr t < q) (9 ^ (3 - pr t))) 8
noncomputable def tn_lq (bw pr ln nd : Nat → Nat) (q c : Nat) : Nat := tn_sm (fun t => tn_q (tn_ov ln nd t c ∧ pr t < q) (bw t)) 8
def tn_LQ (th : Nat → Int32) (ca bw pr ln nd : Nat → Nat) (q : Nat) : Prop := ∀ c, c < 36 → th c ≠ 0 → tn_lq bw pr ln nd q c ≤ ca c
def tn_OK (th up cl av : Nat → Int32) (ln nd : Nat → Nat) : Prop := ∀ t c, t < 8 → c < 36 → tn_ov ln nd t c → tn_OP th up cl (av t) c
theorem tn_sm_const (f : Nat → Nat) (b : Nat) : ∀ n, tn_sm (fun t => f t + b) n = tn_sm f n + n * b
  | 0 => by simp [tn_sm]
  | n + 1 => by
    have := tn_sm_const f b n
    simp only [tn_sm, Nat.add_mul]
    omega
section
variable {fl le bl bc : Int32} {th up cl av st wa op rk fn pa be : Nat → Int32} {co ca en bw pr ln nd : Nat → Nat} {tl : Nat → Int64}
theorem tn_ph_le (q : Nat) : tn_ph pr ln q ≤ 5832 := tn_sm_bd (n := 8) (b := 729) fun t _ => Nat.le_trans tn_q_le (Nat.le_trans (Nat.pow_le_pow_right (by decide) (show 3 - pr t ≤ 3 by omega)) (by decide))
theorem tn_ph_mono {q : Nat} (hpr : ∀ t, pr t ≤ 3) : tn_ph pr ln q ≤ tn_ph pr ln 4 := tn_sm_le fun t _ => tn_q_mono fun h => ⟨h.1, by have := hpr t; omega⟩
theorem tn_ph_drop {q o : Nat} (ho : q ≤ pr o) : tn_ph pr (tn_up ln o 0) q = tn_ph pr ln q := by
  refine tn_sm_eq fun t ht => ?_
  by_cases z : t = o
  · subst z
    rw [tn_q_f (fun y => by have := y.2; omega), tn_q_f (fun y => by have := y.2; omega)]
  · rw [tn_up_n z]
theorem tn_ph_put {t L : Nat} (ht : t < 8) (h0 : ln t = 0) (hL : L ≠ 0) : tn_ph pr ln (pr t + 1) + 9 ^ (3 - pr t) = tn_ph pr (tn_up ln t L) (pr t + 1) := by
  refine tn_sm_adde (a := t) (fun s hs hst => ?_) ht ?_
  · rw [tn_up_n hst]
  · rw [tn_up_s, tn_q_f (fun y => y.1 h0), tn_q_t ⟨hL, by omega⟩]
    omega
theorem tn_ph_gap {p : Nat} (hp : p ≤ 3) (hpr : ∀ t, pr t ≤ 3) : tn_ph pr ln 4 < tn_ph pr ln (p + 1) + 9 ^ (3 - p) := by
  have go : ∀ B, (∀ t, p < pr t → 9 ^ (3 - pr t) ≤ B) → tn_ph pr ln 4 ≤ tn_ph pr ln (p + 1) + 8 * B := by
    intro B hB
    have a : tn_ph pr ln 4 ≤ tn_sm (fun t => tn_q (ln t ≠ 0 ∧ pr t < p + 1) (9 ^ (3 - pr t)) + B) 8 := by
      refine tn_sm_le fun t ht => ?_
      rcases Nat.lt_or_ge p (pr t) with z | z
      · have := hB t z
        have : tn_q (ln t ≠ 0 ∧ pr t < 4) (9 ^ (3 - pr t)) ≤ 9 ^ (3 - pr t) := tn_q_le
        omega
      · have : tn_q (ln t ≠ 0 ∧ pr t < 4) (9 ^ (3 - pr t)) ≤ tn_q (ln t ≠ 0 ∧ pr t < p + 1) (9 ^ (3 - pr t)) := tn_q_mono fun h => ⟨h.1, by omega⟩
        omega
    rw [tn_sm_const] at a
    exact a
  have pw : ∀ t B, p < pr t → 9 ^ (3 - (p + 1)) ≤ B → 9 ^ (3 - pr t) ≤ B := fun t B h1 h2 => Nat.le_trans (Nat.pow_le_pow_right (by decide) (by omega)) h2
  have hp' : p = 0 ∨ p = 1 ∨ p = 2 ∨ p = 3 := by omega
  rcases hp' with rfl | rfl | rfl | rfl
  · have := go 81 fun t h => pw t 81 h (by decide)
    simp only [Nat.sub_zero]
    omega
  · have := go 9 fun t h => pw t 9 h (by decide)
    simp only [show 3 - 1 = 2 from rfl]
    omega
  · have := go 1 fun t h => pw t 1 h (by decide)
    simp only [show 3 - 2 = 1 from rfl]
    omega
  · have := go 0 fun t h => by have := hpr t; omega
    simp only [Nat.sub_self]
    omega
theorem tn_np_drop {o : Nat} (ho : o < 8) (h : ln o ≠ 0) : tn_np (tn_up ln o 0) + 1 = tn_np ln := by
  refine tn_sm_adde (a := o) (fun s hs hst => ?_) ho ?_
  · rw [tn_up_n hst]
  · rw [tn_up_s, tn_q_f (fun y => y rfl), tn_q_t h]
theorem tn_ov_sub {s o c : Nat} (h : tn_ov (tn_up ln o 0) nd s c) : tn_ov ln nd s c := by
  by_cases z : s = o
  · subst z; exact absurd h tn_ov_0
  · exact (tn_ov_n z).1 h
theorem tn_LQ_drop {q o : Nat} (h : tn_LQ th ca bw pr ln nd q) : tn_LQ th ca bw pr (tn_up ln o 0) nd q := fun c hc ht =>
  Nat.le_trans (tn_sm_le fun s _ => tn_q_mono fun y => ⟨tn_ov_sub y.1, y.2⟩) (h c hc ht)
theorem tn_OK_drop {o : Nat} (h : tn_OK th up cl av ln nd) : tn_OK th up cl av (tn_up ln o 0) nd := fun t c ht hc y => h t c ht hc (tn_ov_sub y)
theorem tn_vic {q c o : Nat} (hc : c < 36) (hO : tn_OL th ca bw ln nd c) (hL : tn_LQ th ca bw pr ln nd q) (hV : tn_VI pr ln nd c o) : q ≤ pr o := by
  rcases Nat.lt_or_ge (pr o) q with z | z
  · have a := hL c hc hO.1
    have e : tn_lq bw pr ln nd q c = tn_ld bw ln nd c := tn_sm_eq fun s hs => tn_q_iff ⟨fun y => y.1, fun y => ⟨y, by have := hV.2.2 s hs y; omega⟩⟩
    have := hO.2
    omega
  · exact z
theorem tn_vi_ex {c : Nat} (hO : tn_OL th ca bw ln nd c) : ∃ o, tn_VI pr ln nd c o := by
  have hp : 0 < tn_ld bw ln nd c := by have := hO.2; omega
  obtain ⟨t, ht, z⟩ := tn_sm_pos hp
  have hv : tn_ov ln nd t c := Classical.byContradiction fun y => by rw [tn_q_f y] at z; omega
  have key : ∀ i, i ≤ 8 → (∀ s, s < i → ¬ tn_ov ln nd s c) ∨ ∃ o, o < i ∧ tn_ov ln nd o c ∧ ∀ s, s < i → tn_ov ln nd s c → pr s < pr o ∨ (pr s = pr o ∧ s ≤ o) := by
    intro i
    induction i with
    | zero => exact fun _ => Or.inl fun s hs => absurd hs (Nat.not_lt_zero s)
    | succ i ih =>
      intro hi
      rcases Classical.em (tn_ov ln nd i c) with y | y
      · rcases ih (by omega) with I | ⟨o, ho, a, b⟩
        · refine Or.inr ⟨i, by omega, y, fun s hs hs2 => ?_⟩
          by_cases e : s = i
          · subst e; exact Or.inr ⟨rfl, Nat.le_refl _⟩
          · exact absurd hs2 (I s (by omega))
        · rcases Nat.lt_or_ge (pr i) (pr o) with l | l
          · refine Or.inr ⟨o, by omega, a, fun s hs hs2 => ?_⟩
            by_cases e : s = i
            · subst e; exact Or.inl l
            · exact b s (by omega) hs2
          · refine Or.inr ⟨i, by omega, y, fun s hs hs2 => ?_⟩
            by_cases e : s = i
            · subst e; exact Or.inr ⟨rfl, Nat.le_refl _⟩
            · have := b s (by omega) hs2
              omega
      · rcases ih (by omega) with I | ⟨o, ho, a, b⟩
        · refine Or.inl fun s hs => ?_
          by_cases e : s = i
          · subst e; exact y
          · exact I s (by omega)
        · refine Or.inr ⟨o, by omega, a, fun s hs hs2 => ?_⟩
          by_cases e : s = i
          · subst e; exact absurd hs2 y
          · exact b s (by omega) hs2
  rcases key 8 (Nat.le_refl _) with I | ⟨o, ho, a, b⟩
  · exact absurd hv (I t ht)
  · exact ⟨o, ho, a, b⟩
theorem tn_least36 (P : Nat → Prop) (h : ¬ ∀ c, c < 36 → ¬ P c) : ∃ c, c < 36 ∧ P c ∧ ∀ d, d < c → ¬ P d := by
  have key : ∀ i, i ≤ 36 → (∀ d, d < i → ¬ P d) ∨ ∃ c, c < 36 ∧ P c ∧ ∀ d, d < c → ¬ P d := by
    intro i
    induction i with
    | zero => exact fun _ => Or.inl fun d hd => absurd hd (Nat.not_lt_zero d)
    | succ i ih =>
      intro hi
      rcases ih (by omega) with I | I
      · rcases Classical.em (P i) with y | y
        · exact Or.inr ⟨i, by omega, y, I⟩
        · refine Or.inl fun d hd => ?_
          by_cases e : d = i
          · subst e; exact y
          · exact I d (by omega)
      · exact Or.inr I
  rcases key 36 (Nat.le_refl _) with I | I
  · exact absurd I h
  · exact I
theorem tn_relieve {q : Nat} (hF : tn_FX th wa co ca en bw pr) : ∀ N ln, tn_np ln ≤ N → tn_MV wa en ln nd → tn_OK th up cl av ln nd → tn_LQ th ca bw pr ln nd q →
    ∃ ln1 k, tn_MV wa en ln1 nd ∧ tn_OK th up cl av ln1 nd ∧ tn_LQ th ca bw pr ln1 nd q ∧ tn_ph pr ln1 q = tn_ph pr ln q ∧ (∀ c, c < 36 → ¬ tn_OL th ca bw ln1 nd c) ∧
      (∀ j, j + N ≤ 8 → ∃ n, ∀ (post : SX → Prop) (fl : Int32) (st : Nat → Int32) (tl : Nat → Int64) (op rk fn : Nat → Int32), tn_SX st wa ln → tn_TL tl ln nd → (∀ (st' : Nat → Int32) (tl' : Nat → Int64), tn_SX st' wa ln1 → tn_TL tl' ln1 nd → post (fl, th, up, tn_I co, tn_I ca, cl, st', tn_I en, tn_I bw, tn_I pr, av, tl', tn_I nd, tn_I ln1, op, rk, fn)) → wX_relieveLinks_2 post n (nI j) fl th up (tn_I co) (tn_I ca) cl st (tn_I en) (tn_I bw) (tn_I pr) av tl (tn_I nd) (tn_I ln) op rk fn) ∧
      (∀ n (post : Int32 → SY → Prop) (le bl bc : Int32) (pa be : Nat → Int32), wY_settle_6 post n 1 le bl bc th (tn_I co) (tn_I ca) cl up wa (tn_I en) (tn_I bw) (tn_I pr) av (tn_I ln1) (tn_I nd) pa be → wY_settle_6 post (n + k) 1 le bl bc th (tn_I co) (tn_I ca) cl up wa (tn_I en) (tn_I bw) (tn_I pr) av (tn_I ln) (tn_I nd) pa be) := by
  obtain ⟨fTH, fco, fca, fen, fbw, fpr, fwa⟩ := hF
  intro N
  have none : ∀ ln, (∀ c, c < 36 → ¬ tn_OL th ca bw ln nd c) → ∀ j, j ≤ 8 → ∃ n, ∀ (post : SX → Prop) (fl : Int32) (st : Nat → Int32) (tl : Nat → Int64) (op rk fn : Nat → Int32), tn_SX st wa ln → tn_TL tl ln nd → (∀ (st' : Nat → Int32) (tl' : Nat → Int64), tn_SX st' wa ln → tn_TL tl' ln nd → post (fl, th, up, tn_I co, tn_I ca, cl, st', tn_I en, tn_I bw, tn_I pr, av, tl', tn_I nd, tn_I ln, op, rk, fn)) → wX_relieveLinks_2 post n (nI j) fl th up (tn_I co) (tn_I ca) cl st (tn_I en) (tn_I bw) (tn_I pr) av tl (tn_I nd) (tn_I ln) op rk fn := by
    intro ln hno j hj
    refine ⟨1, fun post fl st tl op rk fn S T h => ?_⟩
    rw [wX_relieveLinks_2]
    refine br_c (fun _ => h st tl S T) (fun _ => tn_x_first fca fbw T (fun _ => br_t rfl (h st tl S T)) (fun c hc hO _ => absurd hO (hno c hc)))
  induction N with
  | zero =>
    intro ln hN M O L
    have hno : ∀ c, c < 36 → ¬ tn_OL th ca bw ln nd c := by
      intro c hc hO
      obtain ⟨o, hV⟩ := tn_vi_ex (pr := pr) hO
      have := tn_np_drop hV.1 (tn_ov_ne hV.2.1)
      omega
    exact ⟨ln, 0, M, O, L, rfl, hno, fun j hj => none ln hno j (by omega), fun n post le bl bc pa be h => h⟩
  | succ N ih =>
    intro ln hN M O L
    rcases Classical.em (∀ c, c < 36 → ¬ tn_OL th ca bw ln nd c) with hno | hex
    · exact ⟨ln, 0, M, O, L, rfl, hno, fun j hj => none ln hno j (by omega), fun n post le bl bc pa be h => h⟩
    · obtain ⟨c, hc, hO, hle⟩ := tn_least36 _ hex
      obtain ⟨o, hV⟩ := tn_vi_ex (pr := pr) hO
      have hn1 := tn_np_drop hV.1 (tn_ov_ne hV.2.1)
      have hq := tn_vic hc hO L hV
      obtain ⟨ln1, k, M1, O1, L1, P1, N1, X1, Y1⟩ := ih (tn_up ln o 0) (by omega) (tn_MV_drop M) (tn_OK_drop O) (tn_LQ_drop L)
      have uc : ∀ c', tn_OL th ca bw ln nd c' → (∀ d, d < c' → ¬ tn_OL th ca bw ln nd d) → c' = c := by
        intro c' a b
        rcases Nat.lt_trichotomy c c' with z | z | z
        · exact absurd hO (b c z)
        · exact z.symm
        · exact absurd a (hle c' z)
      refine ⟨ln1, k + 1, M1, O1, L1, P1.trans (tn_ph_drop hq), N1, fun j hj => ?_, fun n post le bl bc pa be h => ?_⟩
      · obtain ⟨n, hn⟩ := X1 (j + 1) (by omega)
        refine ⟨n + 1, fun post fl st tl op rk fn S T h => ?_⟩
        rw [wX_relieveLinks_2]
        refine br_f (tn_i8 (by omega)) (tn_x_first fca fbw T (fun z => absurd hO (z c hc)) (fun c' hc' hO' hle' => br_f (tn_ne_m1 (by omega)) ?_))
        have e := uc c' hO' hle'
        subst e
        refine tn_x_least hc fpr T ⟨o, hV.1, hV.2.1⟩ fun o' hV' => br_f (tn_ne_m1 (by have := hV'.1; omega)) ?_
        have e := tn_VI_uniq hV hV'
        subst e
        exact tn_x_idle hV.1 (nm_r (nI_1 j) (hn post fl _ _ op rk fn (tn_SX_drop S (M.2.2.1 o (tn_ov_ne hV.2.1))) (tn_TL_idle T) h))
      · show wY_settle_6 post (n + k + 1) 1 _ _ _ _ _ _ _ _ _ _ _ _ _ _ _ _ _
        rw [wY_settle_6]
        refine br_f (by decide) (tn_y_full fca fbw fpr M.1 M.2.1 (fun z => absurd hO (z c hc)) (fun c' o' hc' hO' hle' hV' => br_f (by decide) ?_))
        have e := uc c' hO' hle'
        subst e
        have e := tn_VI_uniq hV hV'
        subst e
        exact Y1 n post le bl bc pa be h
theorem tn_LQ_put {k b n : Nat} (hno : ∀ c, c < 36 → ¬ tn_OL th ca bw ln nd c) (hM : tn_MV wa en ln nd) (hk : k < 8) (h0 : ln k = 0) (B : tn_BE (tn_Et th up cl av ca bw pr ln nd k) co (en k) b n) : tn_LQ th ca bw pr (tn_up ln k (b + 2)) (tn_pl nd k (b + 2) (tn_pt (en k) b n)) (pr k + 1) := by
  intro c hc ht
  have b5 := B.1
  rcases Classical.em (tn_ov (tn_up ln k (b + 2)) (tn_pl nd k (b + 2) (tn_pt (en k) b n)) k c) with z | z
  · obtain ⟨i, hi, e⟩ := tn_ov_ps.1 z
    have E := B.2.2.1.2 i (by omega)
    rw [e] at E
    have q : tn_tk bw pr ln nd (nI k) (pr k) c + bw k = tn_lq bw pr (tn_up ln k (b + 2)) (tn_pl nd k (b + 2) (tn_pt (en k) b n)) (pr k + 1) c := by
      refine tn_sm_adde (a := k) (fun s hs hsk => tn_q_iff ?_) hk ?_
      · rw [tn_ov_pn hM.1 (by omega) hsk]
        exact ⟨fun y => ⟨y.2.2, by have := y.2.1; omega⟩, fun y => ⟨fun w => hsk ((nI_eq (by omega) (by omega)).1 w), by have := y.2; omega, y.1⟩⟩
      · rw [tn_q_f (fun y => y.1 rfl), tn_q_t ⟨z, by omega⟩]
        omega
    have := E.2.2
    omega
  · have a : tn_lq bw pr (tn_up ln k (b + 2)) (tn_pl nd k (b + 2) (tn_pt (en k) b n)) (pr k + 1) c ≤ tn_ld bw ln nd c := by
      refine tn_sm_le fun s hs => tn_q_mono fun y => ?_
      by_cases w : s = k
      · subst w; exact absurd y.1 z
      · exact (tn_ov_pn hM.1 (by omega) w).1 y.1
    rcases Nat.lt_or_ge (ca c) (tn_ld bw ln nd c) with l | l
    · exact absurd ⟨ht, l⟩ (hno c hc)
    · omega
theorem tn_MV_put {k b n : Nat} (hM : tn_MV wa en ln nd) (he : ∀ t, en t < 36) (hw : wa k ≠ 0) (hb : b < 5) (hn : n < 6 ^ b) (hD : tn_DI (en k) b n) : tn_MV wa en (tn_up ln k (b + 2)) (tn_pl nd k (b + 2) (tn_pt (en k) b n)) := by
  obtain ⟨h1, h2, h3, h4⟩ := hM
  refine ⟨tn_up_le h1 (by omega), tn_pl_lt h2 (fun i _ => tn_pt_lt (he k)), fun s hs => ?_, fun s hs hl => ?_⟩
  · by_cases z : s = k
    · subst z; exact hw
    · rw [tn_up_n z] at hs; exact h3 s hs
  · by_cases z : s = k
    · subst z
      exact ⟨b, n, hb, hn, hD, tn_up_s _ _ _, fun i hi => tn_pl_in hi⟩
    · rw [tn_up_n z] at hl ⊢
      obtain ⟨b', n', g1, g2, g3, g4, g5⟩ := h4 s hs hl
      exact ⟨b', n', g1, g2, g3, g4, fun i hi => by rw [tn_pl_out (by omega) z (by omega)]; exact g5 i hi⟩
theorem tn_OK_put {k b n : Nat} (hO : tn_OK th up cl av ln nd) (hM : tn_MV wa en ln nd) (hb : b < 5) (hE : ∀ i, i < b + 1 → tn_OP th up cl (av k) (tn_cd (tn_pt (en k) b n i) (tn_pt (en k) b n (i + 1)))) : tn_OK th up cl av (tn_up ln k (b + 2)) (tn_pl nd k (b + 2) (tn_pt (en k) b n)) := by
  intro s c hs hc y
  by_cases z : s = k
  · subst z
    obtain ⟨i, hi, e⟩ := tn_ov_ps.1 y
    rw [← e]
    exact hE i (by omega)
  · exact hO s c hs hc ((tn_ov_pn hM.1 (by omega) z).1 y)
theorem tn_BE_ex {E : Nat → Prop} {co : Nat → Nat} {e b n : Nat} (hb : b < 5) (hn : n < 6 ^ b) (hV : tn_VA E e b n) : ∃ b n, tn_BE E co e b n := by
  obtain ⟨x, ⟨b1, n1, h1, h2, h3, h4⟩, hl⟩ := pk_least (fun x => ∃ b n, b < 5 ∧ n < 6 ^ b ∧ tn_VA E e b n ∧ x = tn_CO co (tn_pt e b n) (b + 1) * 6480 + b * 1296 + n) ⟨_, b, n, hb, hn, hV, rfl⟩
  refine ⟨b1, n1, h1, h2, h3, fun b' n' g1 g2 g3 => ?_⟩
  have p1 := tn_p6 h1
  have p2 := tn_p6 g1
  rcases Nat.lt_or_ge (tn_CO co (tn_pt e b' n') (b' + 1) * 6480 + b' * 1296 + n') x with z | z
  · exact absurd ⟨b', n', g1, g2, g3, rfl⟩ (hl _ z)
  · omega
theorem tn_least32 (P : Nat → Prop) (h : ¬ ∀ c, c < 32 → ¬ P c) : ∃ c, c < 32 ∧ P c ∧ ∀ d, d < c → ¬ P d := by
  obtain ⟨c, h1, h2, h3⟩ := tn_least36 (fun c => c < 32 ∧ P c) (fun z => h fun c hc y => z c (by omega) ⟨hc, y⟩)
  exact ⟨c, h2.1, h2.2, fun d hd y => h3 d hd ⟨by omega, y⟩⟩
end
end
section
/-! both sides settle alike -/
section
variable {fl le bl bc : Int32} {th up cl av st wa op rk fn pa be : Nat → Int32} {co ca en bw pr ln nd : Nat → Nat} {tl : Nat → Int64}
theorem tn_rounds (hF : tn_FX th wa co ca en bw pr) : ∀ N q m ln nd, 5832 < m + N → m ≤ tn_ph pr ln q → tn_MV wa en ln nd → tn_OK th up cl av ln nd → tn_LQ th ca bw pr ln nd q →
    ∃ ln' nd', tn_MV wa en ln' nd' ∧ tn_OK th up cl av ln' nd' ∧ (∀ c, c < 36 → ¬ tn_OL th ca bw ln' nd' c) ∧
      (∀ i, i ≤ m → ∃ n, ∀ (post : SX → Prop) (fl : Int32) (st : Nat → Int32) (tl : Nat → Int64) (op rk fn : Nat → Int32), tn_SX st wa ln → tn_TL tl ln nd → (∀ (fl' : Int32) (st' : Nat → Int32) (tl' : Nat → Int64) (op' rk' fn' : Nat → Int32), tn_SX st' wa ln' → tn_TL tl' ln' nd' → post (fl', th, up, tn_I co, tn_I ca, cl, st', tn_I en, tn_I bw, tn_I pr, av, tl', tn_I nd', tn_I ln', op', rk', fn')) → wX_settle_8 post n 1 (nI i) fl th up (tn_I co) (tn_I ca) cl st (tn_I en) (tn_I bw) (tn_I pr) av tl (tn_I nd) (tn_I ln) op rk fn) ∧
      (∃ n, ∀ (post : Int32 → SY → Prop) (le bl bc : Int32) (pa be : Nat → Int32), (∀ (le' bl' bc' : Int32) (pa' be' : Nat → Int32), post (nI (tn_np ln')) (le', bl', bc', th, tn_I co, tn_I ca, cl, up, wa, tn_I en, tn_I bw, tn_I pr, av, tn_I ln', tn_I nd', pa', be')) → wY_settle_6 post n 1 le bl bc th (tn_I co) (tn_I ca) cl up wa (tn_I en) (tn_I bw) (tn_I pr) av (tn_I ln) (tn_I nd) pa be) := by
  intro N
  induction N with
  | zero =>
    intro q m ln nd h1 h2
    have := tn_ph_le (pr := pr) (ln := ln) q
    omega
  | succ N ih =>
    intro q m ln nd h1 h2 M O L
    have b1 := tn_ph_le (pr := pr) (ln := ln) q
    have n8 : tn_np ln ≤ 8 := tn_sm_bd (n := 8) (b := 1) fun t _ => tn_q_le
    obtain ⟨ln1, k, M1, O1, L1, P1, N1, X1, Y1⟩ := tn_relieve hF 8 ln n8 M O L
    obtain ⟨nr, hnr⟩ := X1 0 (by omega)
    have fpr := hF.2.2.2.2.2.1
    have fen := hF.2.2.2.1
    have lt6 : ∀ i, i ≤ m → ¬ (1000000 : Int32) ≤ nI i := fun i hi => nI_ge (b := 1000000) (by omega) (by decide)
    rcases Classical.em (∀ k, k < 32 → ¬ tn_CA th up cl av wa en ca bw pr ln1 nd k) with hno | hex
    · refine ⟨ln1, nd, M1, O1, N1, fun i hi => ⟨2, fun post fl st tl op rk fn S T h => ?_⟩, ⟨2 + k, fun post le bl bc pa be h => Y1 2 post le bl bc pa be ?_⟩⟩
      · rw [wX_settle_8]
        refine br_f (by decide) (br_f (lt6 i hi) ⟨nr, hnr _ fl st tl op rk fn S T fun st' tl' S' T' => ?_⟩)
        refine tn_x_pff hF M1 S' T' (fun _ op' rk' => nm_e ?_) (fun k b n hk _ hC _ => absurd hC (hno k hk))
        rw [wX_settle_8]
        exact br_t rfl (h fl st' tl' op' rk' fn S' T')
      · rw [wY_settle_6]
        refine br_f (by decide) (tn_y_full hF.2.2.1 hF.2.2.2.2.1 fpr M1.1 M1.2.1 (fun _ => br_t rfl ?_) (fun c o hc hO => absurd hO (N1 c hc)))
        refine tn_y_one hF M1 (fun _ le' bl' bc' pa' be' => ?_) (fun k b n hk _ hC _ => absurd hC (hno k hk))
        rw [wY_settle_6]
        exact br_t rfl (tn_y_count M1.1 (h le' bl' bc' pa' be'))
    · obtain ⟨k0, hk0, hC, hle⟩ := tn_least32 _ hex
      obtain ⟨w0, l0, zp, b, n, hb, hn, hV⟩ := id hC
      have m8 : k0 % 8 < 8 := by omega
      have uk : ∀ k', tn_CA th up cl av wa en ca bw pr ln1 nd k' → (∀ j, j < k' → ¬ tn_CA th up cl av wa en ca bw pr ln1 nd j) → k' = k0 := by
        intro k' a b
        rcases Nat.lt_trichotomy k0 k' with z | z | z
        · exact absurd hC (b k0 z)
        · exact z.symm
        · exact absurd a (hle k' z)
      have ⟨b, n, B⟩ : ∃ b n, tn_BE (tn_Et th up cl av ca bw pr ln1 nd (k0 % 8)) co (en (k0 % 8)) b n := tn_BE_ex hb hn hV
      have ph1 := tn_ph_put (pr := pr) (L := b + 2) m8 l0 (by omega)
      have ph2 := tn_ph_gap (pr := pr) (ln := ln1) (fpr (k0 % 8)) fpr
      have ph3 := tn_ph_mono (pr := pr) (ln := ln1) (q := q) fpr
      obtain ⟨ln', nd', M', O', N', X', Y'⟩ := ih (pr (k0 % 8) + 1) (m + 1) (tn_up ln1 (k0 % 8) (b + 2)) (tn_pl nd (k0 % 8) (b + 2) (tn_pt (en (k0 % 8)) b n)) (by omega) (by omega) (tn_MV_put M1 fen w0 B.1 B.2.1 B.2.2.1.1) (tn_OK_put O1 M1 B.1 fun i hi => (B.2.2.1.2 i hi).2.1) (tn_LQ_put N1 M1 m8 l0 B)
      obtain ⟨ny, hny⟩ := Y'
      refine ⟨ln', nd', M', O', N', fun i hi => ?_, ⟨ny + 1 + k, fun post le bl bc pa be h => Y1 (ny + 1) post le bl bc pa be ?_⟩⟩
      · obtain ⟨nx, hnx⟩ := X' (i + 1) (by omega)
        refine ⟨nx + 1, fun post fl st tl op rk fn S T h => ?_⟩
        rw [wX_settle_8]
        refine br_f (by decide) (br_f (lt6 i hi) ⟨nr, hnr _ fl st tl op rk fn S T fun st' tl' S' T' => ?_⟩)
        refine tn_x_pff hF M1 S' T' (fun z => absurd hC (z k0 hk0)) (fun k2 b2 n2 hk2 hle2 hC2 B2 fl3 st3 tl3 op3 rk3 fn3 S3 T3 => ?_)
        have e := uk k2 hC2 hle2
        subst e
        obtain ⟨e1, e2⟩ := tn_BE_uniq B B2
        subst e1; subst e2
        refine nm_r (nI_1 i) ?_
        exact hnx post fl3 st3 tl3 op3 rk3 fn3 S3 T3 h
      · rw [wY_settle_6]
        refine br_f (by decide) (tn_y_full hF.2.2.1 hF.2.2.2.2.1 fpr M1.1 M1.2.1 (fun _ => br_t rfl ?_) (fun c o hc hO => absurd hO (N1 c hc)))
        refine tn_y_one hF M1 (fun z => absurd hC (z k0 hk0)) (fun k2 b2 n2 hk2 hle2 hC2 B2 le3 bl3 bc3 pa3 be3 => ?_)
        have e := uk k2 hC2 hle2
        subst e
        obtain ⟨e1, e2⟩ := tn_BE_uniq B B2
        subst e1; subst e2
        exact hny post le3 bl3 bc3 pa3 be3 h
end
end
section
/-! the relation, what the arguments are, a settling as a whole -/
/-- the two networks are the same, no link is overloaded, no path is broken -/
def i_Rel (k : Nat) (u : SX) (v : SY) : Prop :=
  ∃ (fl le bl bc : Int32) (th up cl av st wa op rk fn pa be : Nat → Int32) (co ca en bw pr ln nd : Nat → Nat) (tl : Nat → Int64),
    u = (fl, th, up, tn_I co, tn_I ca, cl, st, tn_I en, tn_I bw, tn_I pr, av, tl, tn_I nd, tn_I ln, op, rk, fn) ∧ v = (le, bl, bc, th, tn_I co, tn_I ca, cl, up, wa, tn_I en, tn_I bw, tn_I pr, av, tn_I ln, tn_I nd, pa, be) ∧
    tn_FX th wa co ca en bw pr ∧ tn_MV wa en ln nd ∧ tn_OK th up cl av ln nd ∧ (∀ c, c < 36 → ¬ tn_OL th ca bw ln nd c) ∧ tn_SX st wa ln ∧ tn_TL tl ln nd
theorem i_up {k : Nat} {u : SX} {v : SY} (h : i_Rel k u v) : i_Rel (k + 5) u v := h
theorem tn_ov_z {nd : Nat → Nat} {t c : Nat} : ¬ tn_ov (fun _ => 0) nd t c := fun h => tn_ov_ne h rfl
theorem tn_ld_z {bw nd : Nat → Nat} {c : Nat} : tn_ld bw (fun _ => 0) nd c = 0 := by
  have h : tn_ld bw (fun _ => 0) nd c ≤ 8 * 0 := tn_sm_bd fun t _ => Nat.le_of_eq (tn_q_f tn_ov_z)
  omega
theorem i_vc0 : wpX_init (fun u => wpY_init (fun v => i_Rel 0 u v)) := by
  refine ⟨0, 0, 0, 0, fun _ => 0, fun _ => 0, fun _ => 0, fun _ => 0, fun _ => 0, fun _ => 0, fun _ => 0, fun _ => 0, fun _ => 0, fun _ => 0, fun _ => 0, fun _ => 0, fun _ => 0, fun _ => 0, fun _ => 0, fun _ => 0, fun _ => 0, fun _ => 0, fun _ => 0, rfl, rfl, ?_, ?_, ?_, ?_, ?_, ?_⟩
  · exact ⟨fun c h => absurd rfl h, fun _ => Nat.zero_le _, fun _ => Nat.zero_le _, fun _ => (by decide : (0 : Nat) < 36), fun _ => Nat.zero_le _, fun _ => Nat.zero_le _, fun t h => absurd rfl h⟩
  · exact ⟨fun _ => Nat.zero_le _, fun _ => (by decide : (0 : Nat) < 6), fun t h => absurd rfl h, fun t _ h => absurd rfl h⟩
  · exact fun t c _ _ h => absurd h tn_ov_z
  · exact fun c _ h => absurd rfl h.1
  · exact fun t _ => ⟨fun _ => rfl, fun h => absurd rfl h, fun h => absurd rfl h⟩
  · exact fun t c _ hc => ⟨fun h => absurd h (tn_bt_0 (by omega)), fun h => absurd h tn_ov_z⟩
def tn_in (x : Int32) (a b : Nat) : Prop := ∃ j, a ≤ j ∧ j ≤ b ∧ x = nI j
def tn_gc (x : Int32) : Prop := ∃ c, c < 36 ∧ c / 6 < c % 6 ∧ x = nI c
def tn_ge (x : Int32) : Prop := ∃ e, e < 36 ∧ e / 6 ≠ e % 6 ∧ x = nI e
theorem tn_in_of {x : Int32} {a b : Nat} (ha : a < 2 ^ 31) (hb : b < 2 ^ 31) (h1 : ¬ x < nI a) (h2 : ¬ nI b < x) : tn_in x a b := by
  rw [Int32.lt_iff_toInt_lt, nI_toInt ha] at h1
  rw [Int32.lt_iff_toInt_lt, nI_toInt hb] at h2
  have h0 : ¬ x < 0 := by
    rw [Int32.lt_iff_toInt_lt, show (0 : Int32).toInt = 0 from by decide]
    omega
  obtain ⟨j, hj, rfl⟩ := nI_of h0
  rw [nI_toInt hj] at h1 h2
  exact ⟨j, by omega, by omega, rfl⟩
theorem tn_in_no {x : Int32} {a b : Nat} (hb : b < 2 ^ 31) (h : tn_in x a b) : ¬ x < nI a ∧ ¬ nI b < x := by
  obtain ⟨j, h1, h2, rfl⟩ := h
  exact ⟨nI_nlt h1 (by omega), nI_nlt h2 hb⟩
/-- 'below a, or above b' as it is printed on the reference's side -/
theorem tn_y_in {x : Int32} {A B : Prop} (a b : Nat) (ha : a < 2 ^ 31) (hb : b < 2 ^ 31) (h1 : tn_in x a b → B) (h0 : ¬ tn_in x a b → A) : (x < nI a → A) ∧ (¬ x < nI a → ((nI b < x → A) ∧ (¬ nI b < x → B))) :=
  ⟨fun z => h0 fun y => (tn_in_no hb y).1 z, fun z => ⟨fun w => h0 fun y => (tn_in_no hb y).2 w, fun w => h1 (tn_in_of ha hb z w)⟩⟩
theorem tn_y_in' {x : Int32} {A B : Prop} (a b : Nat) (ha : a < 2 ^ 31) (hb : b < 2 ^ 31) (h1 : tn_in x a b → B) (h0 : ¬ tn_in x a b → A) : (x < nI a → A) ∧ (¬ x < nI a → ((x ≤ nI b → B) ∧ (¬ x ≤ nI b → A))) :=
  ⟨fun z => h0 fun y => (tn_in_no hb y).1 z, fun z => ⟨fun w => h1 (tn_in_of ha hb z (Int32.not_lt.mpr w)), fun w => h0 fun y => w (Int32.not_lt.mp (tn_in_no hb y).2)⟩⟩
theorem tn_x_in {post : Int32 → Prop} {x : Int32} (a b : Nat) (ha : a < 2 ^ 31) (hb : b < 2 ^ 31) (h1 : tn_in x a b → post 1) (h0 : ¬ tn_in x a b → post 0) : wpX_isWithin post x (nI a) (nI b) := tn_y_in a b ha hb h1 h0
theorem tn_x_gc {post : Int32 → Prop} {x : Int32} (h1 : tn_gc x → post 1) (h0 : ¬ tn_gc x → post 0) : wpX_isGoodCode post x := by
  refine tn_x_in 0 35 (by decide) (by decide) (fun z => br_f (by decide) ⟨tn_6, tn_6, ?_⟩) (fun z => br_t rfl (h0 fun ⟨c, a, _, e⟩ => z ⟨c, Nat.zero_le _, by omega, e⟩))
  obtain ⟨j, -, hj, rfl⟩ := z
  rw [tn_r6 (show j < 2 ^ 31 by omega), tn_d6 (show j < 2 ^ 31 by omega)]
  refine pk_le (j % 6) (j / 6) (fun l => h0 fun ⟨c, a, b, e⟩ => ?_) (fun l => h1 ⟨j, by omega, l, rfl⟩)
  rw [nI_eq (by omega) (by omega)] at e
  subst e
  omega
theorem tn_x_ge {post : Int32 → Prop} {x : Int32} (h1 : tn_ge x → post 1) (h0 : ¬ tn_ge x → post 0) : wpX_isGoodEnds post x := by
  refine tn_x_in 0 35 (by decide) (by decide) (fun z => br_f (by decide) ⟨tn_6, tn_6, ?_⟩) (fun z => br_t rfl (h0 fun ⟨c, a, _, e⟩ => z ⟨c, Nat.zero_le _, by omega, e⟩))
  obtain ⟨j, -, hj, rfl⟩ := z
  rw [tn_r6 (show j < 2 ^ 31 by omega), tn_d6 (show j < 2 ^ 31 by omega)]
  refine pk_eq (j / 6) (j % 6) (fun l => h0 fun ⟨c, a, b, e⟩ => ?_) (fun l => h1 ⟨j, by omega, l, rfl⟩)
  rw [nI_eq (by omega) (by omega)] at e
  subst e
  exact b l
theorem tn_x_tn {post : Int32 → Prop} {x : Int32} (h1 : tn_in x 0 7 → post 1) (h0 : ¬ tn_in x 0 7 → post 0) : wpX_isTunnelNumber post x :=
  tn_x_in 0 7 (by decide) (by decide) (fun z => ⟨by decide, h1 z⟩) (fun z => ⟨by decide, h0 z⟩)
theorem tn_x_tm {post : Int32 → Prop} {x : Int32} (h1 : tn_in x 0 31 → post 1) (h0 : ¬ tn_in x 0 31 → post 0) : wpX_isGoodTerms post x :=
  tn_x_in 0 31 (by decide) (by decide) (fun z => ⟨by decide, h1 z⟩) (fun z => ⟨by decide, h0 z⟩)
def tn_of (e b m : Int32) : Prop := tn_ge e ∧ tn_in b 1 100 ∧ tn_in m 0 31
theorem tn_x_of {post : Int32 → Prop} {e b m : Int32} (h1 : tn_of e b m → post 1) (h0 : ¬ tn_of e b m → post 0) : wpX_isGoodOffer post e b m := by
  unfold wpX_isGoodOffer
  refine tn_x_ge (fun z1 => br_f (by decide) ?_) (fun z1 => br_t rfl (h0 fun y => z1 y.1))
  refine tn_x_in 1 100 (by decide) (by decide) (fun z2 => br_f (by decide) ?_) (fun z2 => br_t rfl (h0 fun y => z2 y.2.1))
  exact tn_x_tm (fun z3 => br_f (by decide) (h1 ⟨z1, z2, z3⟩)) (fun z3 => br_t rfl (h0 fun y => z3 y.2.2))
section
variable {fl le bl bc : Int32} {th up cl av st wa op rk fn pa be : Nat → Int32} {co ca en bw pr ln nd : Nat → Nat} {tl : Nat → Int64}
theorem tn_y_gc {post : Int32 → Prop} {x : Int32} (h1 : tn_gc x → post 0) (h0 : ¬ tn_gc x → post 1) : wpY_badCode post (le, bl, bc, th, tn_I co, tn_I ca, cl, up, wa, tn_I en, tn_I bw, tn_I pr, av, tn_I ln, tn_I nd, pa, be) x := by
  refine tn_y_in 0 35 (by decide) (by decide) (fun z => ⟨tn_6, tn_6, ?_⟩) (fun z => h0 fun ⟨c, a, _, e⟩ => z ⟨c, Nat.zero_le _, by omega, e⟩)
  obtain ⟨j, -, hj, rfl⟩ := z
  rw [tn_r6 (show j < 2 ^ 31 by omega), tn_d6 (show j < 2 ^ 31 by omega)]
  refine pk_lt (j / 6) (j % 6) (fun l => h1 ⟨j, by omega, l, rfl⟩) (fun l => h0 fun ⟨c, a, b, e⟩ => ?_)
  rw [nI_eq (by omega) (by omega)] at e
  subst e
  omega
theorem tn_y_ge {post : Int32 → Prop} {x : Int32} (h1 : tn_ge x → post 0) (h0 : ¬ tn_ge x → post 1) : wpY_badEnds post (le, bl, bc, th, tn_I co, tn_I ca, cl, up, wa, tn_I en, tn_I bw, tn_I pr, av, tn_I ln, tn_I nd, pa, be) x := by
  refine tn_y_in 0 35 (by decide) (by decide) (fun z => ⟨tn_6, tn_6, ?_⟩) (fun z => h0 fun ⟨c, a, _, e⟩ => z ⟨c, Nat.zero_le _, by omega, e⟩)
  obtain ⟨j, -, hj, rfl⟩ := z
  rw [tn_r6 (show j < 2 ^ 31 by omega), tn_d6 (show j < 2 ^ 31 by omega)]
  refine pk_eq (j / 6) (j % 6) (fun l => h0 fun ⟨c, a, b, e⟩ => ?_) (fun l => h1 ⟨j, by omega, l, rfl⟩)
  rw [nI_eq (by omega) (by omega)] at e
  subst e
  exact b l
theorem tn_y_tn {post : Int32 → Prop} {x : Int32} (h1 : tn_in x 0 7 → post 0) (h0 : ¬ tn_in x 0 7 → post 1) : wpY_badTunnel post (le, bl, bc, th, tn_I co, tn_I ca, cl, up, wa, tn_I en, tn_I bw, tn_I pr, av, tn_I ln, tn_I nd, pa, be) x := tn_y_in' 0 7 (by decide) (by decide) h1 h0
theorem tn_y_tm {post : Int32 → Prop} {x : Int32} (h1 : tn_in x 0 31 → post 0) (h0 : ¬ tn_in x 0 31 → post 1) : wpY_badTerms post (le, bl, bc, th, tn_I co, tn_I ca, cl, up, wa, tn_I en, tn_I bw, tn_I pr, av, tn_I ln, tn_I nd, pa, be) x := tn_y_in' 0 31 (by decide) (by decide) h1 h0
theorem tn_settle (hF : tn_FX th wa co ca en bw pr) (hM : tn_MV wa en ln nd) :
    ∃ ln' nd', tn_MV wa en ln' nd' ∧ tn_OK th up cl av ln' nd' ∧ (∀ c, c < 36 → ¬ tn_OL th ca bw ln' nd' c) ∧
      (∀ (post : SX → Prop) (fl : Int32) (st : Nat → Int32) (tl : Nat → Int64) (op rk fn : Nat → Int32), tn_SX st wa ln → tn_TL tl ln nd → (∀ (fl' : Int32) (st' : Nat → Int32) (tl' : Nat → Int64) (op' rk' fn' : Nat → Int32), tn_SX st' wa ln' → tn_TL tl' ln' nd' → post (fl', th, up, tn_I co, tn_I ca, cl, st', tn_I en, tn_I bw, tn_I pr, av, tl', tn_I nd', tn_I ln', op', rk', fn')) → wpX_settle post (fl, th, up, tn_I co, tn_I ca, cl, st, tn_I en, tn_I bw, tn_I pr, av, tl, tn_I nd, tn_I ln, op, rk, fn)) ∧
      (∀ (post : Int32 → SY → Prop) (le bl bc : Int32) (pa be : Nat → Int32), (∀ (le' bl' bc' : Int32) (pa' be' : Nat → Int32), post (nI (tn_np ln')) (le', bl', bc', th, tn_I co, tn_I ca, cl, up, wa, tn_I en, tn_I bw, tn_I pr, av, tn_I ln', tn_I nd', pa', be')) → wpY_settle post (le, bl, bc, th, tn_I co, tn_I ca, cl, up, wa, tn_I en, tn_I bw, tn_I pr, av, tn_I ln, tn_I nd, pa, be)) := by
  have L : tn_LQ th ca bw pr (tn_H th up cl av nd ln 8) nd 0 := by
    intro c hc ht
    have : tn_lq bw pr (tn_H th up cl av nd ln 8) nd 0 c ≤ 8 * 0 := tn_sm_bd fun t _ => Nat.le_of_eq (tn_q_f fun y => absurd y.2 (Nat.not_lt_zero _))
    omega
  obtain ⟨ln', nd', M', O', N', X', ny, Y'⟩ := tn_rounds (up := up) (cl := cl) (av := av) hF 5833 0 0 (tn_H th up cl av nd ln 8) nd (by omega) (Nat.zero_le _) (tn_H_MV hM 8) (fun t c ht hc h => (tn_H_ov 8 t c h).2 ht hc) L
  obtain ⟨nx, hx⟩ := X' 0 (Nat.le_refl _)
  refine ⟨ln', nd', M', O', N', fun post fl st tl op rk fn S T h => ?_, fun post le bl bc pa be h => ?_⟩
  · exact tn_x_drop hM S T fun st' tl' S' T' => ⟨nx, hx post fl st' tl' op rk fn S' T' h⟩
  · exact tn_y_drop hM ⟨ny, Y' post le bl bc pa be h⟩
end
end
section
/-! link, unlink, change -/
section
variable {fl le bl bc : Int32} {th up cl av st wa op rk fn pa be : Nat → Int32} {co ca en bw pr ln nd : Nat → Nat} {tl : Nat → Int64}
theorem tn_FX_th {c : Nat} {x : Int32} (h : tn_FX th wa co ca en bw pr) (hc : c < 36) (hc2 : c / 6 < c % 6) : tn_FX (upd th c x) wa co ca en bw pr := by
  refine ⟨fun d hd => ?_, h.2⟩
  by_cases z : d = c
  · subst z; exact ⟨hc, hc2⟩
  · rw [pk_un z] at hd; exact h.1 d hd
theorem tn_FX_co {c x : Nat} (h : tn_FX th wa co ca en bw pr) (hx : x ≤ 20) : tn_FX th wa (tn_up co c x) ca en bw pr := ⟨h.1, tn_up_le h.2.1 hx, h.2.2⟩
theorem tn_FX_ca {c x : Nat} (h : tn_FX th wa co ca en bw pr) (hx : x ≤ 100) : tn_FX th wa co (tn_up ca c x) en bw pr := ⟨h.1, h.2.1, tn_up_le h.2.2.1 hx, h.2.2.2⟩
end
theorem i_vc_link {k : Nat} {u : SX} {v : SY} (I : i_Rel k u v) (hk : k + 5 ≤ 2560) (v1 : Int32) (v2 : Int32) (v3 : Int32) : wpX_link (fun r u' => wpY_link (fun r' v' => r' = r ∧ i_Rel (k + 5) u' v') v v1 v2 v3) u v1 v2 v3 := by
  have I0 := I
  obtain ⟨fl, le, bl, bc, th, up, cl, av, st, wa, op, rk, fn, pa, be, co, ca, en, bw, pr, ln, nd, tl, rfl, rfl, hF, hM, hO, hN, hS, hT⟩ := I
  rcases Classical.em (tn_gc v1 ∧ tn_in v2 1 20 ∧ tn_in v3 0 100) with g | g
  · obtain ⟨g1, g2, g3⟩ := g
    obtain ⟨c, hc, hc2, rfl⟩ := id g1
    obtain ⟨x, x1, x2, rfl⟩ := id g2
    obtain ⟨y, y1, y2, rfl⟩ := id g3
    have cc : (nI c).toNatClampNeg = c := nI_clamp (by omega)
    have vc := tn_v36 hc
    unfold wpX_link wpY_link
    dsimp only
    rw [cc]
    refine tn_x_gc (fun _ => br_f (by decide) (tn_x_in 1 20 (by decide) (by decide) (fun _ => br_f (by decide) (tn_x_in 0 100 (by decide) (by decide) (fun _ => br_f (by decide) ⟨vc, ?_⟩) (fun z => absurd g3 z))) (fun z => absurd g2 z))) (fun z => absurd g1 z)
    by_cases z : th c = 0
    · refine br_t z ⟨vc, nm_e ⟨vc, nm_e ⟨vc, nm_r (tn_up_I co c x) ⟨vc, nm_r (tn_up_I ca c y) ⟨vc, nm_e ?_⟩⟩⟩⟩⟩
      have hF' := tn_FX_ca (c := c) (tn_FX_co (c := c) (tn_FX_th (x := vp_nar .boolean 1) hF hc hc2) x2) y2
      obtain ⟨ln', nd', M', O', N', X', Y'⟩ := tn_settle (up := upd up c (vp_nar .boolean 1)) (cl := upd cl c 0) (av := av) hF' hM
      refine X' _ fl st tl op rk fn hS hT fun fl2 st2 tl2 op2 rk2 fn2 S2 T2 => ?_
      refine tn_x_count M'.2.2.1 S2 ?_
      refine tn_y_gc (fun _ => br_t rfl (tn_y_in 1 20 (by decide) (by decide) (fun _ => tn_y_in' 0 100 (by decide) (by decide) (fun _ => ⟨vc, br_t z ⟨vc, nm_e ⟨vc, nm_r (tn_up_I co c x) ⟨vc, nm_r (tn_up_I ca c y) ⟨vc, nm_e ⟨vc, nm_e ?_⟩⟩⟩⟩⟩⟩) (fun z => absurd g3 z)) (fun z => absurd g2 z))) (fun z => absurd g1 z)
      refine Y' _ le bl bc pa be fun le2 bl2 bc2 pa2 be2 => ?_
      exact ⟨rfl, _, _, _, _, _, _, _, _, _, _, _, _, _, _, _, _, _, _, _, _, _, _, _, rfl, rfl, hF', M', O', N', S2, T2⟩
    · refine br_f z ?_
      exact tn_y_gc (fun _ => br_t rfl (tn_y_in 1 20 (by decide) (by decide) (fun _ => tn_y_in' 0 100 (by decide) (by decide) (fun _ => ⟨vc, br_f z ⟨rfl, I0⟩⟩) (fun z => absurd g3 z)) (fun z => absurd g2 z))) (fun z => absurd g1 z)
  · have YB : wpY_link (fun r' v' => r' = -1 ∧ i_Rel (k + 5) (fl, th, up, tn_I co, tn_I ca, cl, st, tn_I en, tn_I bw, tn_I pr, av, tl, tn_I nd, tn_I ln, op, rk, fn) v') (le, bl, bc, th, tn_I co, tn_I ca, cl, up, wa, tn_I en, tn_I bw, tn_I pr, av, tn_I ln, tn_I nd, pa, be) v1 v2 v3 := by
      unfold wpY_link
      dsimp only
      exact tn_y_gc (fun g1 => br_t rfl (tn_y_in 1 20 (by decide) (by decide) (fun g2 => tn_y_in' 0 100 (by decide) (by decide) (fun g3 => absurd ⟨g1, g2, g3⟩ g) (fun z => ⟨rfl, I0⟩)) (fun z => ⟨rfl, I0⟩))) (fun z => br_f (by decide) ⟨rfl, I0⟩)
    unfold wpX_link
    dsimp only
    exact tn_x_gc (fun g1 => br_f (by decide) (tn_x_in 1 20 (by decide) (by decide) (fun g2 => br_f (by decide) (tn_x_in 0 100 (by decide) (by decide) (fun g3 => absurd ⟨g1, g2, g3⟩ g) (fun z => br_t rfl YB))) (fun z => br_t rfl YB))) (fun z => br_t rfl YB)
theorem i_vc_unlink {k : Nat} {u : SX} {v : SY} (I : i_Rel k u v) (hk : k + 5 ≤ 2560) (v1 : Int32) : wpX_unlink (fun r u' => wpY_unlink (fun r' v' => r' = r ∧ i_Rel (k + 5) u' v') v v1) u v1 := by
  have I0 := I
  obtain ⟨fl, le, bl, bc, th, up, cl, av, st, wa, op, rk, fn, pa, be, co, ca, en, bw, pr, ln, nd, tl, rfl, rfl, hF, hM, hO, hN, hS, hT⟩ := I
  rcases Classical.em (tn_gc v1) with g1 | g
  · obtain ⟨c, hc, hc2, rfl⟩ := id g1
    have cc : (nI c).toNatClampNeg = c := nI_clamp (by omega)
    have vc := tn_v36 hc
    unfold wpX_unlink wpY_unlink
    dsimp only
    rw [cc]
    refine tn_x_gc (fun _ => br_f (by decide) ⟨vc, ?_⟩) (fun z => absurd g1 z)
    by_cases z : th c = 0
    · refine br_t z ?_
      exact tn_y_gc (fun _ => br_t rfl ⟨vc, br_t z ⟨rfl, I0⟩⟩) (fun z => absurd g1 z)
    · refine br_f z ⟨vc, nm_e ?_⟩
      have hF' := tn_FX_th (x := vp_nar .boolean 0) hF hc hc2
      obtain ⟨ln', nd', M', O', N', X', Y'⟩ := tn_settle (up := up) (cl := cl) (av := av) hF' hM
      refine X' _ fl st tl op rk fn hS hT fun fl2 st2 tl2 op2 rk2 fn2 S2 T2 => ?_
      refine tn_x_count M'.2.2.1 S2 ?_
      refine tn_y_gc (fun _ => br_t rfl ⟨vc, br_f z ⟨vc, nm_e ?_⟩⟩) (fun z => absurd g1 z)
      refine Y' _ le bl bc pa be fun le2 bl2 bc2 pa2 be2 => ?_
      exact ⟨rfl, _, _, _, _, _, _, _, _, _, _, _, _, _, _, _, _, _, _, _, _, _, _, _, rfl, rfl, hF', M', O', N', S2, T2⟩
  · unfold wpX_unlink wpY_unlink
    dsimp only
    exact tn_x_gc (fun g1 => absurd g1 g) (fun _ => br_t rfl (tn_y_gc (fun g1 => absurd g1 g) (fun _ => br_f (by decide) ⟨rfl, I0⟩)))
end
section
/-! change -/
def tn_gv (w x : Int32) : Prop := (w = 0 ∧ tn_in x 1 20) ∨ (w = 1 ∧ tn_in x 0 100) ∨ (w = 2 ∧ tn_in x 0 7) ∨ (w = 3 ∧ tn_in x 0 1)
theorem tn_gv_w {w x : Int32} (h : tn_gv w x) : tn_in w 0 3 := by
  rcases h with ⟨rfl, -⟩ | ⟨rfl, -⟩ | ⟨rfl, -⟩ | ⟨rfl, -⟩
  · exact ⟨0, by decide, by decide, rfl⟩
  · exact ⟨1, by decide, by decide, rfl⟩
  · exact ⟨2, by decide, by decide, rfl⟩
  · exact ⟨3, by decide, by decide, rfl⟩
theorem tn_in3 {w : Int32} (h : tn_in w 0 3) : w = 0 ∨ w = 1 ∨ w = 2 ∨ w = 3 := by
  obtain ⟨j, -, hj, rfl⟩ := h
  have : j = 0 ∨ j = 1 ∨ j = 2 ∨ j = 3 := by omega
  rcases this with rfl | rfl | rfl | rfl
  · exact Or.inl rfl
  · exact Or.inr (Or.inl rfl)
  · exact Or.inr (Or.inr (Or.inl rfl))
  · exact Or.inr (Or.inr (Or.inr rfl))
theorem tn_gv0 {x : Int32} : tn_gv 0 x ↔ tn_in x 1 20 := ⟨fun h => by rcases h with h | h | h | h <;> first | exact h.2 | exact absurd h.1 (by decide), fun h => Or.inl ⟨rfl, h⟩⟩
theorem tn_gv1 {x : Int32} : tn_gv 1 x ↔ tn_in x 0 100 := ⟨fun h => by rcases h with h | h | h | h <;> first | exact absurd h.1 (by decide) | exact h.2, fun h => Or.inr (Or.inl ⟨rfl, h⟩)⟩
theorem tn_gv2 {x : Int32} : tn_gv 2 x ↔ tn_in x 0 7 := ⟨fun h => by rcases h with h | h | h | h <;> first | exact absurd h.1 (by decide) | exact h.2, fun h => Or.inr (Or.inr (Or.inl ⟨rfl, h⟩))⟩
theorem tn_gv3 {x : Int32} : tn_gv 3 x ↔ tn_in x 0 1 := ⟨fun h => by rcases h with h | h | h | h <;> first | exact absurd h.1 (by decide) | exact h.2, fun h => Or.inr (Or.inr (Or.inr ⟨rfl, h⟩))⟩
theorem tn_x_gv {post : Int32 → Prop} {w x : Int32} (h1 : tn_gv w x → post 1) (h0 : ¬ tn_gv w x → post 0) : wpX_isGoodValue post w x := by
  refine tn_y_in 0 3 (by decide) (by decide) (fun z => ?_) (fun z => h0 fun y => z (tn_gv_w y))
  rcases tn_in3 z with rfl | rfl | rfl | rfl
  · rw [tn_gv0] at h1 h0
    exact br_t rfl (tn_x_in 1 20 (by decide) (by decide) (fun z => ⟨by decide, h1 z⟩) (fun z => ⟨by decide, h0 z⟩))
  · rw [tn_gv1] at h1 h0
    exact br_f (by decide) (br_t rfl (tn_x_in 0 100 (by decide) (by decide) (fun z => ⟨by decide, h1 z⟩) (fun z => ⟨by decide, h0 z⟩)))
  · rw [tn_gv2] at h1 h0
    exact br_f (by decide) (br_f (by decide) (br_t rfl (tn_x_in 0 7 (by decide) (by decide) (fun z => ⟨by decide, h1 z⟩) (fun z => ⟨by decide, h0 z⟩))))
  · rw [tn_gv3] at h1 h0
    exact br_f (by decide) (br_f (by decide) (br_f (by decide) (br_t rfl (tn_x_in 0 1 (by decide) (by decide) (fun z => ⟨by decide, h1 z⟩) (fun z => ⟨by decide, h0 z⟩)))))
section
variable {fl le bl bc : Int32} {th up cl av st wa op rk fn pa be : Nat → Int32} {co ca en bw pr ln nd : Nat → Nat} {tl : Nat → Int64}
theorem tn_y_gv {post : Int32 → Prop} {w x : Int32} (hw : tn_in w 0 3) (h1 : tn_gv w x → post 0) (h0 : ¬ tn_gv w x → post 1) : wpY_badValue post (le, bl, bc, th, tn_I co, tn_I ca, cl, up, wa, tn_I en, tn_I bw, tn_I pr, av, tn_I ln, tn_I nd, pa, be) w x := by
  rcases tn_in3 hw with rfl | rfl | rfl | rfl
  · rw [tn_gv0] at h1 h0
    exact br_t rfl (tn_y_in' 1 20 (by decide) (by decide) h1 h0)
  · rw [tn_gv1] at h1 h0
    have q := tn_y_in' 0 100 (by decide) (by decide) h1 h0
    exact br_f (by decide) ⟨fun z => q.1 z, fun z => br_t rfl (q.2 z)⟩
  · rw [tn_gv2] at h1 h0
    have q := tn_y_in' 0 7 (by decide) (by decide) h1 h0
    exact br_f (by decide) ⟨fun z => q.1 z, fun z => br_f (by decide) (br_t rfl (q.2 z))⟩
  · rw [tn_gv3] at h1 h0
    have q := tn_y_in' 0 1 (by decide) (by decide) h1 h0
    exact br_f (by decide) ⟨fun z => q.1 z, fun z => br_f (by decide) (br_f (by decide) (q.2 z))⟩
theorem tn_chg {k : Nat} {post : Int32 → SX → Prop} (hF : tn_FX th wa co ca en bw pr) (hM : tn_MV wa en ln nd) (hS : tn_SX st wa ln) (hT : tn_TL tl ln nd)
    (h : ∀ r u', wY_change_96 (fun r' v' => r' = r ∧ i_Rel k u' v') le bl bc th (tn_I co) (tn_I ca) cl up wa (tn_I en) (tn_I bw) (tn_I pr) av (tn_I ln) (tn_I nd) pa be → post r u') : wX_change_102 post fl th up (tn_I co) (tn_I ca) cl st (tn_I en) (tn_I bw) (tn_I pr) av tl (tn_I nd) (tn_I ln) op rk fn := by
  obtain ⟨ln', nd', M', O', N', X', Y'⟩ := tn_settle (up := up) (cl := cl) (av := av) hF hM
  refine X' _ fl st tl op rk fn hS hT fun fl2 st2 tl2 op2 rk2 fn2 S2 T2 => ?_
  refine tn_x_count M'.2.2.1 S2 (h _ _ ?_)
  refine Y' _ le bl bc pa be fun le2 bl2 bc2 pa2 be2 => ?_
  exact ⟨rfl, _, _, _, _, _, _, _, _, _, _, _, _, _, _, _, _, _, _, _, _, _, _, _, rfl, rfl, hF, M', O', N', S2, T2⟩
end
theorem i_vc_change {k : Nat} {u : SX} {v : SY} (I : i_Rel k u v) (hk : k + 5 ≤ 2560) (v1 : Int32) (v2 : Int32) (v3 : Int32) : wpX_change (fun r u' => wpY_change (fun r' v' => r' = r ∧ i_Rel (k + 5) u' v') v v1 v2 v3) u v1 v2 v3 := by
  have I0 := I
  obtain ⟨fl, le, bl, bc, th, up, cl, av, st, wa, op, rk, fn, pa, be, co, ca, en, bw, pr, ln, nd, tl, rfl, rfl, hF, hM, hO, hN, hS, hT⟩ := I
  rcases Classical.em (tn_gc v1 ∧ tn_gv v2 v3) with g | g
  · obtain ⟨g1, g2⟩ := g
    have gw := tn_gv_w g2
    obtain ⟨c, hc, hc2, rfl⟩ := id g1
    have cc : (nI c).toNatClampNeg = c := nI_clamp (by omega)
    have vc := tn_v36 hc
    by_cases z : th c = 0
    · unfold wpX_change wpY_change
      dsimp only
      rw [cc]
      refine tn_x_gc (fun _ => br_f (by decide) (tn_x_gv (fun _ => br_f (by decide) ⟨vc, br_t z ?_⟩) (fun z => absurd g2 z))) (fun z => absurd g1 z)
      exact tn_y_gc (fun _ => br_t rfl (tn_y_in 0 3 (by decide) (by decide) (fun _ => tn_y_gv gw (fun _ => br_t rfl ⟨vc, br_t z ⟨rfl, I0⟩⟩) (fun z => absurd g2 z)) (fun z => absurd gw z))) (fun z => absurd g1 z)
    · have YY : ∀ post : Int32 → SY → Prop, ((v2 = 0 → (vp_in (nI c) 36 ∧ ∀ a, a = upd (tn_I co) c v3 → wY_change_51 post (nI c) v2 v3 le bl bc th a (tn_I ca) cl up wa (tn_I en) (tn_I bw) (tn_I pr) av (tn_I ln) (tn_I nd) pa be)) ∧ (¬ v2 = 0 → wY_change_51 post (nI c) v2 v3 le bl bc th (tn_I co) (tn_I ca) cl up wa (tn_I en) (tn_I bw) (tn_I pr) av (tn_I ln) (tn_I nd) pa be)) → wpY_change post (le, bl, bc, th, tn_I co, tn_I ca, cl, up, wa, tn_I en, tn_I bw, tn_I pr, av, tn_I ln, tn_I nd, pa, be) (nI c) v2 v3 := by
        intro post h
        unfold wpY_change
        dsimp only
        rw [cc]
        exact tn_y_gc (fun _ => br_t rfl (tn_y_in 0 3 (by decide) (by decide) (fun _ => tn_y_gv gw (fun _ => br_t rfl ⟨vc, br_f z h⟩) (fun z => absurd g2 z)) (fun z => absurd gw z))) (fun z => absurd g1 z)
      unfold wpX_change
      dsimp only
      rw [cc]
      refine tn_x_gc (fun _ => br_f (by decide) (tn_x_gv (fun _ => br_f (by decide) ⟨vc, br_f z ?_⟩) (fun z => absurd g2 z))) (fun z => absurd g1 z)
      rcases tn_in3 gw with rfl | rfl | rfl | rfl
      · obtain ⟨x, x1, x2, rfl⟩ := tn_gv0.1 g2
        refine br_f (by decide) (br_f (by decide) (br_t rfl ⟨vc, nm_r (tn_up_I co c x) (tn_chg (k := k + 5) (le := le) (bl := bl) (bc := bc) (pa := pa) (be := be) (tn_FX_co hF x2) hM hS hT fun r u' h => YY _ (br_t rfl ⟨vc, nm_r (tn_up_I co c x) (br_f (by decide) (br_f (by decide) (br_f (by decide) h)))⟩))⟩))
      · obtain ⟨x, x1, x2, rfl⟩ := tn_gv1.1 g2
        refine br_f (by decide) (br_f (by decide) (br_f (by decide) (br_t rfl ⟨vc, nm_r (tn_up_I ca c x) (tn_chg (k := k + 5) (le := le) (bl := bl) (bc := bc) (pa := pa) (be := be) (tn_FX_ca hF x2) hM hS hT fun r u' h => YY _ (br_f (by decide) (br_t rfl ⟨vc, nm_r ((congrArg (fun z => upd (tn_I ca) z (nI x)) cc).trans (tn_up_I ca c x)) (br_f (by decide) (br_f (by decide) h))⟩)))⟩)))
      · refine br_f (by decide) (br_f (by decide) (br_f (by decide) (br_f (by decide) (br_t rfl ⟨vc, nm_e (tn_chg (k := k + 5) (le := le) (bl := bl) (bc := bc) (pa := pa) (be := be) hF hM hS hT fun r u' h => YY _ (br_f (by decide) (br_f (by decide) (br_t rfl ⟨vc, nm_r (congrArg (fun z => upd cl z v3) cc) (br_f (by decide) h)⟩))))⟩))))
      · have fin : ∀ b : Int32, (∀ post : Int32 → SY → Prop, wY_change_95 post b (nI c) le bl bc th (tn_I co) (tn_I ca) cl up wa (tn_I en) (tn_I bw) (tn_I pr) av (tn_I ln) (tn_I nd) pa be → wpY_change post (le, bl, bc, th, tn_I co, tn_I ca, cl, up, wa, tn_I en, tn_I bw, tn_I pr, av, tn_I ln, tn_I nd, pa, be) (nI c) 3 v3) → wX_change_101 (fun r u' => wpY_change (fun r' v' => r' = r ∧ i_Rel (k + 5) u' v') (le, bl, bc, th, tn_I co, tn_I ca, cl, up, wa, tn_I en, tn_I bw, tn_I pr, av, tn_I ln, tn_I nd, pa, be) (nI c) 3 v3) b (nI c) fl th up (tn_I co) (tn_I ca) cl st (tn_I en) (tn_I bw) (tn_I pr) av tl (tn_I nd) (tn_I ln) op rk fn := by
          intro b hb
          exact ⟨vc, nm_e (tn_chg (k := k + 5) (le := le) (bl := bl) (bc := bc) (pa := pa) (be := be) hF hM hS hT fun r u' h => hb _ ⟨vc, nm_e h⟩)⟩
        refine br_f (by decide) (br_t (by decide) (br_c (fun e => fin 1 fun post h => YY post (br_f (by decide) (br_f (by decide) (br_f (by decide) (br_t rfl (br_t e h)))))) (fun e => fin 0 fun post h => YY post (br_f (by decide) (br_f (by decide) (br_f (by decide) (br_t rfl (br_f e h))))))))
  · have YB : wpY_change (fun r' v' => r' = -1 ∧ i_Rel (k + 5) (fl, th, up, tn_I co, tn_I ca, cl, st, tn_I en, tn_I bw, tn_I pr, av, tl, tn_I nd, tn_I ln, op, rk, fn) v') (le, bl, bc, th, tn_I co, tn_I ca, cl, up, wa, tn_I en, tn_I bw, tn_I pr, av, tn_I ln, tn_I nd, pa, be) v1 v2 v3 := by
      unfold wpY_change
      dsimp only
      exact tn_y_gc (fun g1 => br_t rfl (tn_y_in 0 3 (by decide) (by decide) (fun gw => tn_y_gv gw (fun g2 => absurd ⟨g1, g2⟩ g) (fun _ => br_f (by decide) ⟨rfl, I0⟩)) (fun _ => ⟨rfl, I0⟩))) (fun z => br_f (by decide) ⟨rfl, I0⟩)
    unfold wpX_change
    dsimp only
    exact tn_x_gc (fun g1 => br_f (by decide) (tn_x_gv (fun g2 => absurd ⟨g1, g2⟩ g) (fun z => br_t rfl YB))) (fun z => br_t rfl YB)
end
section
/-! want, release -/
section
variable {fl le bl bc : Int32} {th up cl av st wa op rk fn pa be : Nat → Int32} {co ca en bw pr ln nd : Nat → Nat} {tl : Nat → Int64}
theorem tn_nb1 : ¬ vp_nar .boolean 1 = 0 := by decide
theorem tn_nb0 : vp_nar .boolean 0 = 0 := by decide
theorem tn_FX_want {t e b p : Nat} (h : tn_FX th wa co ca en bw pr) (he : e < 36) (he2 : e / 6 ≠ e % 6) (hb1 : 1 ≤ b) (hb : b ≤ 100) (hp : p ≤ 3) : tn_FX th (upd wa t (vp_nar .boolean 1)) co ca (tn_up en t e) (tn_up bw t b) (tn_up pr t p) := by
  obtain ⟨h1, h2, h3, h4, h5, h6, h7⟩ := h
  refine ⟨h1, h2, h3, fun s => ?_, tn_up_le h5 hb, tn_up_le h6 hp, fun s hs => ?_⟩
  · by_cases z : s = t
    · subst z; rw [tn_up_s]; exact he
    · rw [tn_up_n z]; exact h4 s
  · by_cases z : s = t
    · subst z; rw [tn_up_s, tn_up_s]; exact ⟨he2, hb1⟩
    · rw [pk_un z] at hs; rw [tn_up_n z, tn_up_n z]; exact h7 s hs
theorem tn_MV_want {t e : Nat} {x : Int32} (h : tn_MV wa en ln nd) : tn_MV (upd wa t x) (tn_up en t e) (tn_up ln t 0) nd := by
  obtain ⟨h1, h2, h3, h4⟩ := h
  refine ⟨tn_up_le h1 (by omega), h2, fun s hs => ?_, fun s hs hl => ?_⟩
  · by_cases z : s = t
    · subst z; rw [tn_up_s] at hs; exact absurd rfl hs
    · rw [tn_up_n z] at hs; rw [pk_un z]; exact h3 s hs
  · by_cases z : s = t
    · subst z; rw [tn_up_s] at hl; exact absurd rfl hl
    · rw [tn_up_n z] at hl ⊢
      rw [tn_up_n z]
      exact h4 s hs hl
theorem tn_SX_want {t : Nat} (h : tn_SX st wa ln) : tn_SX (upd st t 1) (upd wa t (vp_nar .boolean 1)) (tn_up ln t 0) := by
  intro s hs
  by_cases z : s = t
  · subst z
    rw [pk_us, pk_us, tn_up_s]
    exact ⟨fun y => absurd y tn_nb1, fun _ _ => rfl, fun _ y => absurd rfl y⟩
  · rw [pk_un z, pk_un z, tn_up_n z]
    exact h s hs
theorem tn_SX_rel {t : Nat} (h : tn_SX st wa ln) : tn_SX (upd (upd st t 1) t 0) (upd wa t (vp_nar .boolean 0)) (tn_up ln t 0) := by
  intro s hs
  by_cases z : s = t
  · subst z
    rw [pk_us, pk_us, tn_up_s]
    exact ⟨fun _ => rfl, fun y => absurd tn_nb0 y, fun y => absurd tn_nb0 y⟩
  · rw [pk_un z, pk_un z, pk_un z, tn_up_n z]
    exact h s hs
theorem tn_up_id {f : Nat → Nat} {t : Nat} : tn_up f t (f t) = f := by
  funext j
  unfold tn_up
  split
  · rename_i h; rw [h]
  · rfl
theorem tn_FX_rel {t : Nat} (h : tn_FX th wa co ca en bw pr) : tn_FX th (upd wa t (vp_nar .boolean 0)) co ca en bw pr := by
  obtain ⟨h1, h2, h3, h4, h5, h6, h7⟩ := h
  refine ⟨h1, h2, h3, h4, h5, h6, fun s hs => ?_⟩
  by_cases z : s = t
  · subst z; rw [pk_us] at hs; exact absurd tn_nb0 hs
  · rw [pk_un z] at hs; exact h7 s hs
/-- the tunnel's state as X keeps it -/
theorem tn_SX_0 {t : Nat} (h : tn_SX st wa ln) (ht : t < 8) : st t = 0 ↔ wa t = 0 := by
  obtain ⟨a, b, c⟩ := h t ht
  refine ⟨fun z => Classical.byContradiction fun y => ?_, a⟩
  by_cases w : ln t = 0
  · rw [b y w] at z; exact absurd z (by decide)
  · rw [c y w] at z; exact absurd z (by decide)
theorem tn_SX_2 {t : Nat} (h : tn_SX st wa ln) (hM : tn_MV wa en ln nd) (ht : t < 8) : st t = 2 ↔ ln t ≠ 0 := by
  obtain ⟨a, b, c⟩ := h t ht
  refine ⟨fun z w => ?_, fun w => c (hM.2.2.1 t w) w⟩
  by_cases y : wa t = 0
  · rw [a y] at z; exact absurd z (by decide)
  · rw [b y w] at z; exact absurd z (by decide)
end
theorem i_vc_want {k : Nat} {u : SX} {v : SY} (I : i_Rel k u v) (hk : k + 5 ≤ 2560) (v1 : Int32) (v2 : Int32) (v3 : Int32) (v4 : Int32) : wpX_want (fun r u' => wpY_want (fun r' v' => r' = r ∧ i_Rel (k + 5) u' v') v v1 v2 v3 v4) u v1 v2 v3 v4 := by
  have I0 := I
  obtain ⟨fl, le, bl, bc, th, up, cl, av, st, wa, op, rk, fn, pa, be, co, ca, en, bw, pr, ln, nd, tl, rfl, rfl, hF, hM, hO, hN, hS, hT⟩ := I
  rcases Classical.em (tn_in v1 0 7 ∧ tn_of v2 v3 v4) with g | g
  · obtain ⟨g1, g2⟩ := g
    obtain ⟨g3, g4, g5⟩ := id g2
    obtain ⟨t, -, ht, rfl⟩ := id g1
    obtain ⟨e, he, he2, rfl⟩ := id g3
    obtain ⟨b, hb1, hb2, rfl⟩ := id g4
    obtain ⟨m, -, hm, rfl⟩ := id g5
    have cc : (nI t).toNatClampNeg = t := nI_clamp (by omega)
    have vc := tn_v8 (show t < 8 by omega)
    unfold wpX_want wpY_want
    dsimp only
    rw [cc, tn_r8 (show m < 2 ^ 31 by omega), tn_d8 (show m < 2 ^ 31 by omega)]
    refine tn_x_tn (fun _ => br_f (by decide) (tn_x_of (fun _ => br_f (by decide) ⟨vc, ?_⟩) (fun z => absurd g2 z))) (fun z => absurd g1 z)
    by_cases z : st t = 0
    · have zw := (tn_SX_0 hS (by omega)).1 z
      refine br_t z ⟨vc, nm_r (tn_up_I en t e) ⟨vc, nm_r (tn_up_I bw t b) ⟨tn_8, vc, nm_r (tn_up_I pr t (m / 8)) ⟨tn_8, vc, nm_e (tn_x_idle (by omega) ?_)⟩⟩⟩⟩
      have hF' := tn_FX_want (t := t) (p := m / 8) hF he he2 hb1 hb2 (by omega)
      obtain ⟨ln', nd', M', O', N', X', Y'⟩ := tn_settle (up := up) (cl := cl) (av := upd av t (nI (m % 8))) hF' (tn_MV_want (t := t) (e := e) (x := vp_nar .boolean 1) hM)
      refine X' _ fl _ _ op rk fn (tn_SX_want hS) (tn_TL_idle hT) fun fl2 st2 tl2 op2 rk2 fn2 S2 T2 => ⟨vc, ?_⟩
      have l6 := M'.1 t
      by_cases zz : ln' t = 0
      · refine br_f (fun y => (tn_SX_2 S2 M' (by omega)).1 y zz) ?_
        refine tn_y_tn (fun _ => br_t rfl (tn_y_ge (fun _ => br_t rfl (tn_y_in 1 100 (by decide) (by decide) (fun _ => tn_y_tm (fun _ => br_t rfl ⟨vc, br_t zw ⟨vc, nm_e ⟨vc, nm_r (tn_up_I en t e) ⟨vc, nm_r (tn_up_I bw t b) ⟨tn_8, vc, nm_r (tn_up_I pr t (m / 8)) ⟨tn_8, vc, nm_e ⟨vc, nm_r (tn_up_I ln t 0) ?_⟩⟩⟩⟩⟩⟩⟩) (fun z => absurd g5 z)) (fun z => absurd g4 z))) (fun z => absurd g3 z))) (fun z => absurd g1 z)
        refine Y' _ le bl bc pa be fun le2 bl2 bc2 pa2 be2 => ⟨vc, br_t ?_ ⟨rfl, _, _, _, _, _, _, _, _, _, _, _, _, _, _, _, _, _, _, _, _, _, _, _, rfl, rfl, hF', M', O', N', S2, T2⟩⟩
        show nI (ln' t) ≤ 0
        rw [zz]
        decide
      · refine br_t ((tn_SX_2 S2 M' (by omega)).2 zz) ?_
        refine tn_y_tn (fun _ => br_t rfl (tn_y_ge (fun _ => br_t rfl (tn_y_in 1 100 (by decide) (by decide) (fun _ => tn_y_tm (fun _ => br_t rfl ⟨vc, br_t zw ⟨vc, nm_e ⟨vc, nm_r (tn_up_I en t e) ⟨vc, nm_r (tn_up_I bw t b) ⟨tn_8, vc, nm_r (tn_up_I pr t (m / 8)) ⟨tn_8, vc, nm_e ⟨vc, nm_r (tn_up_I ln t 0) ?_⟩⟩⟩⟩⟩⟩⟩) (fun z => absurd g5 z)) (fun z => absurd g4 z))) (fun z => absurd g3 z))) (fun z => absurd g1 z)
        refine Y' _ le bl bc pa be fun le2 bl2 bc2 pa2 be2 => ⟨vc, br_f ?_ ⟨rfl, _, _, _, _, _, _, _, _, _, _, _, _, _, _, _, _, _, _, _, _, _, _, _, rfl, rfl, hF', M', O', N', S2, T2⟩⟩
        exact nI_nle (by omega) (by omega)
    · have zw : ¬ wa t = 0 := fun y => z ((tn_SX_0 hS (by omega)).2 y)
      refine br_f z ?_
      exact tn_y_tn (fun _ => br_t rfl (tn_y_ge (fun _ => br_t rfl (tn_y_in 1 100 (by decide) (by decide) (fun _ => tn_y_tm (fun _ => br_t rfl ⟨vc, br_f zw ⟨rfl, I0⟩⟩) (fun z => absurd g5 z)) (fun z => absurd g4 z))) (fun z => absurd g3 z))) (fun z => absurd g1 z)
  · have YB : wpY_want (fun r' v' => r' = -1 ∧ i_Rel (k + 5) (fl, th, up, tn_I co, tn_I ca, cl, st, tn_I en, tn_I bw, tn_I pr, av, tl, tn_I nd, tn_I ln, op, rk, fn) v') (le, bl, bc, th, tn_I co, tn_I ca, cl, up, wa, tn_I en, tn_I bw, tn_I pr, av, tn_I ln, tn_I nd, pa, be) v1 v2 v3 v4 := by
      unfold wpY_want
      dsimp only
      exact tn_y_tn (fun g1 => br_t rfl (tn_y_ge (fun g3 => br_t rfl (tn_y_in 1 100 (by decide) (by decide) (fun g4 => tn_y_tm (fun g5 => absurd ⟨g1, g3, g4, g5⟩ g) (fun _ => br_f (by decide) ⟨rfl, I0⟩)) (fun _ => ⟨rfl, I0⟩))) (fun _ => br_f (by decide) ⟨rfl, I0⟩))) (fun _ => br_f (by decide) ⟨rfl, I0⟩)
    unfold wpX_want
    dsimp only
    exact tn_x_tn (fun g1 => br_f (by decide) (tn_x_of (fun g2 => absurd ⟨g1, g2⟩ g) (fun _ => br_t rfl YB))) (fun _ => br_t rfl YB)
theorem i_vc_release {k : Nat} {u : SX} {v : SY} (I : i_Rel k u v) (hk : k + 5 ≤ 2560) (v1 : Int32) : wpX_release (fun r u' => wpY_release (fun r' v' => r' = r ∧ i_Rel (k + 5) u' v') v v1) u v1 := by
  have I0 := I
  obtain ⟨fl, le, bl, bc, th, up, cl, av, st, wa, op, rk, fn, pa, be, co, ca, en, bw, pr, ln, nd, tl, rfl, rfl, hF, hM, hO, hN, hS, hT⟩ := I
  rcases Classical.em (tn_in v1 0 7) with g1 | g
  · obtain ⟨t, -, ht, rfl⟩ := id g1
    have cc : (nI t).toNatClampNeg = t := nI_clamp (by omega)
    have vc := tn_v8 (show t < 8 by omega)
    unfold wpX_release wpY_release
    dsimp only
    rw [cc]
    refine tn_x_tn (fun _ => br_f (by decide) ⟨vc, ?_⟩) (fun z => absurd g1 z)
    by_cases z : st t = 0
    · refine br_t z ?_
      exact tn_y_tn (fun _ => br_t rfl ⟨vc, br_t ((tn_SX_0 hS (by omega)).1 z) ⟨rfl, I0⟩⟩) (fun z => absurd g1 z)
    · have zw : ¬ wa t = 0 := fun y => z ((tn_SX_0 hS (by omega)).2 y)
      refine br_f z (tn_x_idle (by omega) ⟨vc, nm_e ?_⟩)
      have hF' := tn_FX_rel (t := t) hF
      have hM' := tn_MV_want (t := t) (e := en t) (x := vp_nar .boolean 0) hM
      rw [tn_up_id] at hM'
      obtain ⟨ln', nd', M', O', N', X', Y'⟩ := tn_settle (up := up) (cl := cl) (av := av) hF' hM'
      refine X' _ fl _ _ op rk fn (tn_SX_rel hS) (tn_TL_idle hT) fun fl2 st2 tl2 op2 rk2 fn2 S2 T2 => ?_
      refine tn_x_count M'.2.2.1 S2 ?_
      refine tn_y_tn (fun _ => br_t rfl ⟨vc, br_f zw ⟨vc, nm_e ⟨vc, nm_r (tn_up_I ln t 0) ?_⟩⟩⟩) (fun z => absurd g1 z)
      refine Y' _ le bl bc pa be fun le2 bl2 bc2 pa2 be2 => ?_
      exact ⟨rfl, _, _, _, _, _, _, _, _, _, _, _, _, _, _, _, _, _, _, _, _, _, _, _, rfl, rfl, hF', M', O', N', S2, T2⟩
  · unfold wpX_release wpY_release
    dsimp only
    exact tn_x_tn (fun g1 => absurd g1 g) (fun _ => br_t rfl (tn_y_tn (fun g1 => absurd g1 g) (fun _ => br_f (by decide) ⟨rfl, I0⟩)))
end
section
/-! look, room, state, node, cost, over -/
section
variable {fl le bl bc : Int32} {th up cl av st wa op rk fn pa be : Nat → Int32} {co ca en bw pr ln nd : Nat → Nat} {tl : Nat → Int64}
noncomputable def tn_cs (co ln nd : Nat → Nat) (t : Nat) : Nat := tn_sm (fun c => tn_q (tn_ov ln nd t c) (co c)) 36
noncomputable def tn_oc (ln nd : Nat → Nat) (c : Nat) : Nat := tn_sm (fun t => tn_q (tn_ov ln nd t c) 1) 8
theorem tn_x_cs {post : Int32 → Prop} {t : Nat} (ht : t < 8) (hT : tn_TL tl ln nd) (h : post (nI (tn_cs co ln nd t))) : ∃ n, wX_cost_26 post (nI t) fl th up (tn_I co) (tn_I ca) cl st (tn_I en) (tn_I bw) (tn_I pr) av tl (tn_I nd) (tn_I ln) op rk fn n 0 0 := by
  have key : ∀ d i, i + d = 36 → wX_cost_26 post (nI t) fl th up (tn_I co) (tn_I ca) cl st (tn_I en) (tn_I bw) (tn_I pr) av tl (tn_I nd) (tn_I ln) op rk fn (d + 1) (nI (tn_sm (fun c => tn_q (tn_ov ln nd t c) (co c)) i)) (nI i) := by
    intro d
    induction d with
    | zero =>
      intro i hi
      have : i = 36 := by omega
      subst this
      exact br_t (by decide) h
    | succ d ih =>
      intro i hi
      refine br_f (tn_i36 (by omega)) (tn_x_isOver ht (by omega) hT (fun z => br_f (by decide) ⟨tn_v36 (by omega), nm_r ?_ (nm_r (nI_1 i) (ih (i + 1) (by omega)))⟩) (fun z => br_t rfl (nm_r (nI_1 i) ?_)))
      · rw [tn_cl (tn_I co) (by omega), nI_add]
        simp only [tn_sm, tn_q_t z]
      · have q := ih (i + 1) (by omega)
        simp only [tn_sm, tn_q_f z, Nat.add_zero] at q
        exact q
  exact ⟨37, key 36 0 (by omega)⟩
theorem tn_y_cs {post : Int32 → Prop} {t : Nat} (ht : t < 8) (hl : ∀ t, ln t ≤ 6) (hn : ∀ i, nd i < 6) (h : post (nI (tn_cs co ln nd t))) : ∃ n, wY_cost_26 post (nI t) le bl bc th (tn_I co) (tn_I ca) cl up wa (tn_I en) (tn_I bw) (tn_I pr) av (tn_I ln) (tn_I nd) pa be n 0 0 := by
  have key : ∀ d i, i + d = 36 → wY_cost_26 post (nI t) le bl bc th (tn_I co) (tn_I ca) cl up wa (tn_I en) (tn_I bw) (tn_I pr) av (tn_I ln) (tn_I nd) pa be (d + 1) (nI (tn_sm (fun c => tn_q (tn_ov ln nd t c) (co c)) i)) (nI i) := by
    intro d
    induction d with
    | zero =>
      intro i hi
      have : i = 36 := by omega
      subst this
      exact br_t (by decide) h
    | succ d ih =>
      intro i hi
      refine br_f (tn_i36 (by omega)) (tn_y_isOver ht (by omega) hl hn (fun z => br_f (by decide) ⟨tn_v36 (by omega), nm_r ?_ (nm_r (nI_1 i) (ih (i + 1) (by omega)))⟩) (fun z => br_t rfl (nm_r (nI_1 i) ?_)))
      · rw [tn_cl (tn_I co) (by omega), nI_add]
        simp only [tn_sm, tn_q_t z]
      · have q := ih (i + 1) (by omega)
        simp only [tn_sm, tn_q_f z, Nat.add_zero] at q
        exact q
  exact ⟨37, key 36 0 (by omega)⟩
theorem tn_x_oc {post : Int32 → Prop} {c : Nat} (hc : c < 36) (hT : tn_TL tl ln nd) (h : post (nI (tn_oc ln nd c))) : ∃ n, wX_over_25 post (nI c) fl th up (tn_I co) (tn_I ca) cl st (tn_I en) (tn_I bw) (tn_I pr) av tl (tn_I nd) (tn_I ln) op rk fn n 0 0 := by
  have key : ∀ d i, i + d = 8 → wX_over_25 post (nI c) fl th up (tn_I co) (tn_I ca) cl st (tn_I en) (tn_I bw) (tn_I pr) av tl (tn_I nd) (tn_I ln) op rk fn (d + 1) (nI (tn_sm (fun t => tn_q (tn_ov ln nd t c) 1) i)) (nI i) := by
    intro d
    induction d with
    | zero =>
      intro i hi
      have : i = 8 := by omega
      subst this
      exact br_t (by decide) h
    | succ d ih =>
      intro i hi
      refine br_f (tn_i8 (by omega)) (tn_x_isOver (by omega) hc hT (fun z => br_f (by decide) (nm_r ?_ (nm_r (nI_1 i) (ih (i + 1) (by omega))))) (fun z => br_t rfl (nm_r (nI_1 i) ?_)))
      · rw [nI_1]
        simp only [tn_sm, tn_q_t z]
      · have q := ih (i + 1) (by omega)
        simp only [tn_sm, tn_q_f z, Nat.add_zero] at q
        exact q
  exact ⟨9, key 8 0 (by omega)⟩
theorem tn_y_oc {post : Int32 → Prop} {c : Nat} (hc : c < 36) (hl : ∀ t, ln t ≤ 6) (hn : ∀ i, nd i < 6) (h : post (nI (tn_oc ln nd c))) : ∃ n, wY_over_26 post (nI c) le bl bc th (tn_I co) (tn_I ca) cl up wa (tn_I en) (tn_I bw) (tn_I pr) av (tn_I ln) (tn_I nd) pa be n 0 0 := by
  have key : ∀ d i, i + d = 8 → wY_over_26 post (nI c) le bl bc th (tn_I co) (tn_I ca) cl up wa (tn_I en) (tn_I bw) (tn_I pr) av (tn_I ln) (tn_I nd) pa be (d + 1) (nI (tn_sm (fun t => tn_q (tn_ov ln nd t c) 1) i)) (nI i) := by
    intro d
    induction d with
    | zero =>
      intro i hi
      have : i = 8 := by omega
      subst this
      exact br_t (by decide) h
    | succ d ih =>
      intro i hi
      refine br_f (tn_i8 (by omega)) (tn_y_isOver (by omega) hc hl hn (fun z => br_f (by decide) (nm_r ?_ (nm_r (nI_1 i) (ih (i + 1) (by omega))))) (fun z => br_t rfl (nm_r (nI_1 i) ?_)))
      · rw [nI_1]
        simp only [tn_sm, tn_q_t z]
      · have q := ih (i + 1) (by omega)
        simp only [tn_sm, tn_q_f z, Nat.add_zero] at q
        exact q
  exact ⟨9, key 8 0 (by omega)⟩
end
theorem i_vc_look {k : Nat} {u : SX} {v : SY} (I : i_Rel k u v) (hk : k + 5 ≤ 2560) (v1 : Int32) (v2 : Int32) : wpX_look (fun r => wpY_look (fun r' => r' = r ∧ i_Rel (k + 5) u v) v v1 v2) u v1 v2 := by
  have I0 : i_Rel (k + 5) u v := I
  generalize i_Rel (k + 5) u v = P at I0
  obtain ⟨fl, le, bl, bc, th, up, cl, av, st, wa, op, rk, fn, pa, be, co, ca, en, bw, pr, ln, nd, tl, rfl, rfl, hF, hM, hO, hN, hS, hT⟩ := I
  rcases Classical.em (tn_gc v1 ∧ tn_in v2 0 4) with g | g
  · obtain ⟨g1, g2⟩ := g
    obtain ⟨c, hc, hc2, rfl⟩ := id g1
    have cc : (nI c).toNatClampNeg = c := nI_clamp (by omega)
    have vc := tn_v36 hc
    unfold wpX_look wpY_look
    dsimp only
    rw [cc]
    refine tn_x_gc (fun _ => br_f (by decide) (tn_x_in 0 4 (by decide) (by decide) (fun _ => br_f (by decide) ⟨vc, ?_⟩) (fun z => absurd g2 z))) (fun z => absurd g1 z)
    by_cases z : th c = 0
    · exact br_t z (tn_y_gc (fun _ => br_t rfl (tn_y_in' 0 4 (by decide) (by decide) (fun _ => ⟨vc, br_t z ⟨rfl, I0⟩⟩) (fun z => absurd g2 z))) (fun z => absurd g1 z))
    · refine br_f z ?_
      obtain ⟨j, -, hj, rfl⟩ := id g2
      have hj' : j = 0 ∨ j = 1 ∨ j = 2 ∨ j = 3 ∨ j = 4 := by omega
      rcases hj' with rfl | rfl | rfl | rfl | rfl
      · refine br_f (by decide) (br_f (by decide) (br_t rfl ⟨vc, ?_⟩))
        exact tn_y_gc (fun _ => br_t rfl (tn_y_in' 0 4 (by decide) (by decide) (fun _ => ⟨vc, br_f z (br_t rfl ⟨vc, ⟨rfl, I0⟩⟩)⟩) (fun z => absurd g2 z))) (fun z => absurd g1 z)
      · refine br_f (by decide) (br_f (by decide) (br_f (by decide) (br_t rfl ⟨vc, ?_⟩)))
        exact tn_y_gc (fun _ => br_t rfl (tn_y_in' 0 4 (by decide) (by decide) (fun _ => ⟨vc, br_f z (br_f (by decide) (br_t rfl ⟨vc, ⟨rfl, I0⟩⟩))⟩) (fun z => absurd g2 z))) (fun z => absurd g1 z)
      · refine br_f (by decide) (br_f (by decide) (br_f (by decide) (br_f (by decide) (br_t rfl ⟨vc, ?_⟩))))
        exact tn_y_gc (fun _ => br_t rfl (tn_y_in' 0 4 (by decide) (by decide) (fun _ => ⟨vc, br_f z (br_f (by decide) (br_f (by decide) (br_t rfl ⟨vc, ⟨rfl, I0⟩⟩)))⟩) (fun z => absurd g2 z))) (fun z => absurd g1 z)
      · refine br_f (by decide) (br_f (by decide) (br_f (by decide) (br_f (by decide) (br_f (by decide) (br_t rfl ⟨vc, ?_⟩)))))
        refine br_c (fun y => ?_) (fun y => ?_)
        · exact tn_y_gc (fun _ => br_t rfl (tn_y_in' 0 4 (by decide) (by decide) (fun _ => ⟨vc, br_f z (br_f (by decide) (br_f (by decide) (br_f (by decide) (br_t rfl ⟨vc, br_t y ⟨rfl, I0⟩⟩))))⟩) (fun z => absurd g2 z))) (fun z => absurd g1 z)
        · exact tn_y_gc (fun _ => br_t rfl (tn_y_in' 0 4 (by decide) (by decide) (fun _ => ⟨vc, br_f z (br_f (by decide) (br_f (by decide) (br_f (by decide) (br_t rfl ⟨vc, br_f y ⟨rfl, I0⟩⟩))))⟩) (fun z => absurd g2 z))) (fun z => absurd g1 z)
      · refine br_f (by decide) (br_t (by decide) (tn_x_load hc hT ?_))
        refine tn_y_gc (fun _ => br_t rfl (tn_y_in' 0 4 (by decide) (by decide) (fun _ => ⟨vc, br_f z (br_f (by decide) (br_f (by decide) (br_f (by decide) (br_f (by decide) ?_))))⟩) (fun z => absurd g2 z))) (fun z => absurd g1 z)
        refine tn_y_taken (p := 3) hc (by decide) hF.2.2.2.2.2.1 hM.1 hM.2.1 ?_
        rw [tn_tk_ld hF.2.2.2.2.2.1]
        exact ⟨rfl, I0⟩
  · have YB : wpY_look (fun r' => r' = -1 ∧ P) (le, bl, bc, th, tn_I co, tn_I ca, cl, up, wa, tn_I en, tn_I bw, tn_I pr, av, tn_I ln, tn_I nd, pa, be) v1 v2 := by
      unfold wpY_look
      dsimp only
      exact tn_y_gc (fun g1 => br_t rfl (tn_y_in' 0 4 (by decide) (by decide) (fun g2 => absurd ⟨g1, g2⟩ g) (fun _ => ⟨rfl, I0⟩))) (fun _ => br_f (by decide) ⟨rfl, I0⟩)
    unfold wpX_look
    dsimp only
    exact tn_x_gc (fun g1 => br_f (by decide) (tn_x_in 0 4 (by decide) (by decide) (fun g2 => absurd ⟨g1, g2⟩ g) (fun _ => br_t rfl YB))) (fun _ => br_t rfl YB)
theorem i_vc_room {k : Nat} {u : SX} {v : SY} (I : i_Rel k u v) (hk : k + 5 ≤ 2560) (v1 : Int32) (v2 : Int32) : wpX_room (fun r => wpY_room (fun r' => r' = r ∧ i_Rel (k + 5) u v) v v1 v2) u v1 v2 := by
  have I0 : i_Rel (k + 5) u v := I
  generalize i_Rel (k + 5) u v = P at I0
  obtain ⟨fl, le, bl, bc, th, up, cl, av, st, wa, op, rk, fn, pa, be, co, ca, en, bw, pr, ln, nd, tl, rfl, rfl, hF, hM, hO, hN, hS, hT⟩ := I
  rcases Classical.em (tn_gc v1 ∧ tn_in v2 0 3) with g | g
  · obtain ⟨g1, g2⟩ := g
    obtain ⟨c, hc, hc2, rfl⟩ := id g1
    obtain ⟨p, -, hp, rfl⟩ := id g2
    have cc : (nI c).toNatClampNeg = c := nI_clamp (by omega)
    have vc := tn_v36 hc
    unfold wpX_room wpY_room
    dsimp only
    rw [cc]
    refine tn_x_gc (fun _ => br_f (by decide) (tn_x_in 0 3 (by decide) (by decide) (fun _ => br_f (by decide) ⟨vc, ?_⟩) (fun z => absurd g2 z))) (fun z => absurd g1 z)
    by_cases z : th c = 0
    · exact br_t z (tn_y_gc (fun _ => br_t rfl (tn_y_in' 0 3 (by decide) (by decide) (fun _ => ⟨vc, br_t z ⟨rfl, I0⟩⟩) (fun z => absurd g2 z))) (fun z => absurd g1 z))
    · refine br_f z (tn_x_room hc (by omega) hF.2.2.2.2.2.1 hT ?_)
      exact tn_y_gc (fun _ => br_t rfl (tn_y_in' 0 3 (by decide) (by decide) (fun _ => ⟨vc, br_f z (tn_y_room hc (by omega) hF.2.2.2.2.2.1 hM.1 hM.2.1 ⟨rfl, I0⟩)⟩) (fun z => absurd g2 z))) (fun z => absurd g1 z)
  · have YB : wpY_room (fun r' => r' = -1 ∧ P) (le, bl, bc, th, tn_I co, tn_I ca, cl, up, wa, tn_I en, tn_I bw, tn_I pr, av, tn_I ln, tn_I nd, pa, be) v1 v2 := by
      unfold wpY_room
      dsimp only
      exact tn_y_gc (fun g1 => br_t rfl (tn_y_in' 0 3 (by decide) (by decide) (fun g2 => absurd ⟨g1, g2⟩ g) (fun _ => ⟨rfl, I0⟩))) (fun _ => br_f (by decide) ⟨rfl, I0⟩)
    unfold wpX_room
    dsimp only
    exact tn_x_gc (fun g1 => br_f (by decide) (tn_x_in 0 3 (by decide) (by decide) (fun g2 => absurd ⟨g1, g2⟩ g) (fun _ => br_t rfl YB))) (fun _ => br_t rfl YB)
theorem i_vc_state {k : Nat} {u : SX} {v : SY} (I : i_Rel k u v) (hk : k + 5 ≤ 2560) (v1 : Int32) : wpX_state (fun r => wpY_state (fun r' => r' = r ∧ i_Rel (k + 5) u v) v v1) u v1 := by
  have I0 : i_Rel (k + 5) u v := I
  generalize i_Rel (k + 5) u v = P at I0
  obtain ⟨fl, le, bl, bc, th, up, cl, av, st, wa, op, rk, fn, pa, be, co, ca, en, bw, pr, ln, nd, tl, rfl, rfl, hF, hM, hO, hN, hS, hT⟩ := I
  unfold wpX_state wpY_state
  dsimp only
  rcases Classical.em (tn_in v1 0 7) with g1 | g
  · obtain ⟨t, -, ht, rfl⟩ := id g1
    have cc : (nI t).toNatClampNeg = t := nI_clamp (by omega)
    have vc := tn_v8 (show t < 8 by omega)
    have S := hS t (by omega)
    have l6 := hM.1 t
    rw [cc]
    refine tn_x_tn (fun _ => br_f (by decide) ⟨vc, ?_⟩) (fun z => absurd g1 z)
    refine tn_y_tn (fun _ => br_t rfl ⟨vc, br_c (fun z => ⟨(S.1 z).symm, I0⟩) (fun z => ⟨vc, ?_⟩)⟩) (fun z => absurd g1 z)
    exact pk_le (ln t) 0 (fun y => ⟨(S.2.1 z (by omega)).symm, I0⟩) (fun y => ⟨(S.2.2 z (by omega)).symm, I0⟩)
  · exact tn_x_tn (fun g1 => absurd g1 g) (fun _ => br_t rfl (tn_y_tn (fun g1 => absurd g1 g) (fun _ => br_f (by decide) ⟨rfl, I0⟩)))
theorem i_vc_node {k : Nat} {u : SX} {v : SY} (I : i_Rel k u v) (hk : k + 5 ≤ 2560) (v1 : Int32) (v2 : Int32) : wpX_node (fun r => wpY_node (fun r' => r' = r ∧ i_Rel (k + 5) u v) v v1 v2) u v1 v2 := by
  have I0 : i_Rel (k + 5) u v := I
  generalize i_Rel (k + 5) u v = P at I0
  obtain ⟨fl, le, bl, bc, th, up, cl, av, st, wa, op, rk, fn, pa, be, co, ca, en, bw, pr, ln, nd, tl, rfl, rfl, hF, hM, hO, hN, hS, hT⟩ := I
  rcases Classical.em (tn_in v1 0 7) with g1 | g
  · obtain ⟨t, -, ht, rfl⟩ := id g1
    have cc : (nI t).toNatClampNeg = t := nI_clamp (by omega)
    have vc := tn_v8 (show t < 8 by omega)
    have l6 := hM.1 t
    have YN : (∀ i, v2 = nI i → i < ln t → False) → (wpY_node (fun r' => r' = -2 ∧ P) (le, bl, bc, th, tn_I co, tn_I ca, cl, up, wa, tn_I en, tn_I bw, tn_I pr, av, tn_I ln, tn_I nd, pa, be) (nI t) v2) := by
      intro hi
      unfold wpY_node
      dsimp only
      rw [cc]
      refine tn_y_tn (fun _ => br_t rfl (br_c (fun _ => ⟨rfl, I0⟩) (fun z => ⟨vc, br_f ?_ ⟨rfl, I0⟩⟩))) (fun z => absurd g1 z)
      obtain ⟨i, h31, rfl⟩ := nI_of z
      exact fun y => hi i rfl ((nI_ltI h31 (by omega)).1 y)
    by_cases z : ln t = 0
    · have q := YN (fun i _ h => by omega)
      unfold wpX_node
      dsimp only
      rw [cc]
      exact tn_x_tn (fun _ => br_f (by decide) ⟨vc, br_f (fun y => (tn_SX_2 hS hM (by omega)).1 y z) q⟩) (fun z => absurd g1 z)
    · have e1 : tn_I ln t - 1 = nI (ln t - 1) := pk_sub (b := 1) (by omega)
      rcases Classical.em (tn_in v2 0 (ln t - 1)) with g2 | g2
      · obtain ⟨i, -, hi, rfl⟩ := id g2
        unfold wpX_node wpY_node
        dsimp only
        rw [cc, tn_6ab, nI_clamp (show 6 * t + i < 2 ^ 31 by omega)]
        refine tn_x_tn (fun _ => br_f (by decide) ⟨vc, br_t ((tn_SX_2 hS hM (by omega)).2 z) ⟨vc, ?_⟩⟩) (fun z => absurd g1 z)
        rw [e1]
        refine tn_x_in 0 (ln t - 1) (by decide) (by omega) (fun _ => br_f (by decide) ⟨tn_v48 (by omega), ?_⟩) (fun y => absurd g2 y)
        exact tn_y_tn (fun _ => br_t rfl (br_f (nI_pos (by omega)) ⟨vc, br_t (nI_lt (by omega) (by omega)) ⟨tn_v48 (by omega), ⟨rfl, I0⟩⟩⟩)) (fun z => absurd g1 z)
      · have q := YN (fun i e h => g2 ⟨i, Nat.zero_le _, by omega, e⟩)
        unfold wpX_node
        dsimp only
        rw [cc]
        refine tn_x_tn (fun _ => br_f (by decide) ⟨vc, br_t ((tn_SX_2 hS hM (by omega)).2 z) ⟨vc, ?_⟩⟩) (fun z => absurd g1 z)
        rw [e1]
        exact tn_x_in 0 (ln t - 1) (by decide) (by omega) (fun y => absurd y g2) (fun _ => br_t rfl q)
  · unfold wpX_node wpY_node
    dsimp only
    exact tn_x_tn (fun g1 => absurd g1 g) (fun _ => br_t rfl (tn_y_tn (fun g1 => absurd g1 g) (fun _ => br_f (by decide) ⟨rfl, I0⟩)))
theorem i_vc_cost {k : Nat} {u : SX} {v : SY} (I : i_Rel k u v) (hk : k + 5 ≤ 2560) (v1 : Int32) : wpX_cost (fun r => wpY_cost (fun r' => r' = r ∧ i_Rel (k + 5) u v) v v1) u v1 := by
  have I0 : i_Rel (k + 5) u v := I
  generalize i_Rel (k + 5) u v = P at I0
  obtain ⟨fl, le, bl, bc, th, up, cl, av, st, wa, op, rk, fn, pa, be, co, ca, en, bw, pr, ln, nd, tl, rfl, rfl, hF, hM, hO, hN, hS, hT⟩ := I
  unfold wpX_cost wpY_cost
  dsimp only
  rcases Classical.em (tn_in v1 0 7) with g1 | g
  · obtain ⟨t, -, ht, rfl⟩ := id g1
    have cc : (nI t).toNatClampNeg = t := nI_clamp (by omega)
    have vc := tn_v8 (show t < 8 by omega)
    have l6 := hM.1 t
    rw [cc]
    refine tn_x_tn (fun _ => br_f (by decide) ⟨vc, ?_⟩) (fun z => absurd g1 z)
    by_cases z : ln t = 0
    · refine br_f (fun y => (tn_SX_2 hS hM (by omega)).1 y z) ?_
      exact tn_y_tn (fun _ => br_t rfl ⟨vc, br_t (congrArg nI z) ⟨rfl, I0⟩⟩) (fun z => absurd g1 z)
    · refine br_t ((tn_SX_2 hS hM (by omega)).2 z) (tn_x_cs (by omega) hT ?_)
      exact tn_y_tn (fun _ => br_t rfl ⟨vc, br_f (nI_ne0 (by omega) (by omega)) (tn_y_cs (by omega) hM.1 hM.2.1 ⟨rfl, I0⟩)⟩) (fun z => absurd g1 z)
  · exact tn_x_tn (fun g1 => absurd g1 g) (fun _ => br_t rfl (tn_y_tn (fun g1 => absurd g1 g) (fun _ => br_f (by decide) ⟨rfl, I0⟩)))
theorem i_vc_over {k : Nat} {u : SX} {v : SY} (I : i_Rel k u v) (hk : k + 5 ≤ 2560) (v1 : Int32) : wpX_over (fun r => wpY_over (fun r' => r' = r ∧ i_Rel (k + 5) u v) v v1) u v1 := by
  have I0 : i_Rel (k + 5) u v := I
  generalize i_Rel (k + 5) u v = P at I0
  obtain ⟨fl, le, bl, bc, th, up, cl, av, st, wa, op, rk, fn, pa, be, co, ca, en, bw, pr, ln, nd, tl, rfl, rfl, hF, hM, hO, hN, hS, hT⟩ := I
  unfold wpX_over wpY_over
  dsimp only
  rcases Classical.em (tn_gc v1) with g1 | g
  · obtain ⟨c, hc, hc2, rfl⟩ := id g1
    have cc : (nI c).toNatClampNeg = c := nI_clamp (by omega)
    have vc := tn_v36 hc
    rw [cc]
    refine tn_x_gc (fun _ => br_f (by decide) ⟨vc, br_c (fun z => ?_) (fun z => tn_x_oc hc hT ?_)⟩) (fun z => absurd g1 z)
    · exact tn_y_gc (fun _ => br_t rfl ⟨vc, br_t z ⟨rfl, I0⟩⟩) (fun z => absurd g1 z)
    · exact tn_y_gc (fun _ => br_t rfl ⟨vc, br_f z (tn_y_oc hc hM.1 hM.2.1 ⟨rfl, I0⟩)⟩) (fun z => absurd g1 z)
  · exact tn_x_gc (fun g1 => absurd g1 g) (fun _ => br_t rfl (tn_y_gc (fun g1 => absurd g1 g) (fun _ => br_f (by decide) ⟨rfl, I0⟩)))
end
section
/-! improve -/
section
variable {fl le bl bc : Int32} {th up cl av st wa op rk fn pa be : Nat → Int32} {co ca en bw pr ln nd : Nat → Nat} {tl : Nat → Int64}
/-- after a settling a placed tunnel's own path fits -/
theorem tn_own {t : Nat} (hF : tn_FX th wa co ca en bw pr) (hM : tn_MV wa en ln nd) (hO : tn_OK th up cl av ln nd) (hN : ∀ c, c < 36 → ¬ tn_OL th ca bw ln nd c) (ht : t < 8) (hl : ln t ≠ 0) : ∃ b n, b < 5 ∧ n < 6 ^ b ∧ tn_VA (tn_Et th up cl av ca bw pr ln nd t) (en t) b n := by
  obtain ⟨b, n, hb, hn, hD, e, h⟩ := hM.2.2.2 t ht hl
  refine ⟨b, n, hb, hn, hD, fun i hi => ?_⟩
  have c36 : tn_cd (tn_pt (en t) b n i) (tn_pt (en t) b n (i + 1)) < 36 := tn_cd_lt (tn_pt_lt (hF.2.2.2.1 t)) (tn_pt_lt (hF.2.2.2.1 t))
  have v : tn_ov ln nd t (tn_cd (tn_pt (en t) b n i) (tn_pt (en t) b n (i + 1))) := ⟨i, by omega, by rw [Nat.add_assoc, h i (by omega), h (i + 1) (by omega)]⟩
  have o := hO t _ ht c36 v
  have a : tn_tk bw pr ln nd (nI t) (pr t) (tn_cd (tn_pt (en t) b n i) (tn_pt (en t) b n (i + 1))) + bw t ≤ tn_ld bw ln nd (tn_cd (tn_pt (en t) b n i) (tn_pt (en t) b n (i + 1))) := by
    refine tn_sm_add (a := t) (fun s _ => tn_q_mono fun y => y.2.2) ht ?_
    rw [tn_q_f (fun y => y.1 rfl), tn_q_t v]
    omega
  refine ⟨c36, o, ?_⟩
  rcases Nat.lt_or_ge (ca (tn_cd (tn_pt (en t) b n i) (tn_pt (en t) b n (i + 1)))) (tn_ld bw ln nd (tn_cd (tn_pt (en t) b n i) (tn_pt (en t) b n (i + 1)))) with l | l
  · exact absurd ⟨o.1, l⟩ (hN _ c36)
  · omega
def tn_SM (ln nd : Nat → Nat) (t L : Nat) (f : Nat → Nat) : Prop := ln t = L ∧ ∀ i, i < L → nd (6 * t + i) = f i
theorem tn_x_on {post : Int32 → Prop} {t L : Nat} {f : Nat → Nat} (ht : t < 8) (hL : L ≤ 6) (hl : ∀ t, ln t ≤ 6) (hn : ∀ i, nd i < 6) (hf : ∀ i, i < L → f i < 6) (ef : ∀ i, i < L → fn i = nI (f i)) (h1 : tn_SM ln nd t L f → post 1) (h0 : ¬ tn_SM ln nd t L f → post 0) : wpX_isOnFoundPath post (nI L, th, up, tn_I co, tn_I ca, cl, st, tn_I en, tn_I bw, tn_I pr, av, tl, tn_I nd, tn_I ln, op, rk, fn) (nI t) := by
  have l6 := hl t
  have key : ln t = L → ∀ d i, i + d = L → (∀ j, j < i → nd (6 * t + j) = f j) → wX_isOnFoundPath_17 post (nI t) (nI L) th up (tn_I co) (tn_I ca) cl st (tn_I en) (tn_I bw) (tn_I pr) av tl (tn_I nd) (tn_I ln) op rk fn (d + 1) (nI i) := by
    intro eL d
    induction d with
    | zero =>
      intro i hi I
      have : i = L := by omega
      subst this
      exact br_c (fun _ => h1 ⟨eL, I⟩) (fun _ => br_t (Int32.le_refl _) (h1 ⟨eL, I⟩))
    | succ d ih =>
      intro i hi I
      refine br_f (tn_i6 (by omega)) (br_f (nI_ge (by omega) (by omega)) ?_)
      rw [tn_6ab, nI_clamp (show 6 * t + i < 2 ^ 31 by omega), nI_clamp (show i < 2 ^ 31 by omega)]
      have n6 := hn (6 * t + i)
      have f6 := hf i (by omega)
      refine ⟨tn_v48 (by omega), tn_v6 (by omega), pk_eq (nd (6 * t + i)) (f i) (fun z => nm_r (nI_1 i) (ih (i + 1) (by omega) fun j hj => ?_)) (fun z => h0 fun y => z (y.2 i (by omega))) rfl (ef i (by omega)) (by omega) (by omega)⟩
      by_cases y : j = i
      · subst y; exact z
      · exact I j (by omega)
  refine ⟨tn_v8 ht, ?_⟩
  rw [tn_cl (tn_I ln) (by omega)]
  exact pk_eq (ln t) L (fun z => ⟨L + 1, key z L 0 (by omega) (fun j hj => absurd hj (Nat.not_lt_zero j))⟩) (fun z => h0 fun y => z y.1)
theorem tn_y_on {post : Int32 → Prop} {t L : Nat} {f : Nat → Nat} (ht : t < 8) (hL : L ≤ 6) (hl : ∀ t, ln t ≤ 6) (hn : ∀ i, nd i < 6) (hf : ∀ i, i < L → f i < 6) (ef : ∀ i, i < L → be i = nI (f i)) (h1 : tn_SM ln nd t L f → post 1) (h0 : ¬ tn_SM ln nd t L f → post 0) : wpY_isOnBest post (le, nI L, bc, th, tn_I co, tn_I ca, cl, up, wa, tn_I en, tn_I bw, tn_I pr, av, tn_I ln, tn_I nd, pa, be) (nI t) := by
  have l6 := hl t
  have key : ln t = L → ∀ d i, i + d = L → (∀ j, j < i → nd (6 * t + j) = f j) → wY_isOnBest_17 post (nI t) le (nI L) bc th (tn_I co) (tn_I ca) cl up wa (tn_I en) (tn_I bw) (tn_I pr) av (tn_I ln) (tn_I nd) pa be (d + 1) (nI i) := by
    intro eL d
    induction d with
    | zero =>
      intro i hi I
      have : i = L := by omega
      subst this
      exact br_t (Int32.le_refl _) (h1 ⟨eL, I⟩)
    | succ d ih =>
      intro i hi I
      refine br_f (nI_ge (by omega) (by omega)) ?_
      rw [tn_6ab, nI_clamp (show 6 * t + i < 2 ^ 31 by omega), nI_clamp (show i < 2 ^ 31 by omega)]
      have n6 := hn (6 * t + i)
      have f6 := hf i (by omega)
      refine ⟨tn_v48 (by omega), tn_v6 (by omega), pk_eq (nd (6 * t + i)) (f i) (fun z => nm_r (nI_1 i) (ih (i + 1) (by omega) fun j hj => ?_)) (fun z => h0 fun y => z (y.2 i (by omega))) rfl (ef i (by omega)) (by omega) (by omega)⟩
      by_cases y : j = i
      · subst y; exact z
      · exact I j (by omega)
  refine ⟨tn_v8 ht, ?_⟩
  rw [tn_cl (tn_I ln) (by omega)]
  exact pk_eq (ln t) L (fun z => ⟨L + 1, key z L 0 (by omega) (fun j hj => absurd hj (Nat.not_lt_zero j))⟩) (fun z => h0 fun y => z y.1)
end
theorem i_vc_improve {k : Nat} {u : SX} {v : SY} (I : i_Rel k u v) (hk : k + 5 ≤ 2560) (v1 : Int32) : wpX_improve (fun r u' => wpY_improve (fun r' v' => r' = r ∧ i_Rel (k + 5) u' v') v v1) u v1 := by
  have I0 := I
  obtain ⟨fl, le, bl, bc, th, up, cl, av, st, wa, op, rk, fn, pa, be, co, ca, en, bw, pr, ln, nd, tl, rfl, rfl, hF, hM, hO, hN, hS, hT⟩ := I
  rcases Classical.em (tn_in v1 0 7) with g1 | g
  · obtain ⟨t, -, ht, rfl⟩ := id g1
    have t8 : t < 8 := by omega
    have cc : (nI t).toNatClampNeg = t := nI_clamp (by omega)
    have vc := tn_v8 t8
    have l6 := hM.1 t
    by_cases zw : wa t = 0
    · unfold wpX_improve wpY_improve
      dsimp only
      rw [cc]
      exact tn_x_tn (fun _ => br_f (by decide) ⟨vc, br_t ((tn_SX_0 hS t8).2 zw) (tn_y_tn (fun _ => br_t rfl ⟨vc, br_t zw ⟨rfl, I0⟩⟩) (fun z => absurd g1 z))⟩) (fun z => absurd g1 z)
    · by_cases zl : ln t = 0
      · unfold wpX_improve wpY_improve
        dsimp only
        rw [cc]
        exact tn_x_tn (fun _ => br_f (by decide) ⟨vc, br_f (fun y => zw ((tn_SX_0 hS t8).1 y)) ⟨vc, br_f (fun y => (tn_SX_2 hS hM t8).1 y zl) (tn_y_tn (fun _ => br_t rfl ⟨vc, br_f zw ⟨vc, br_t (congrArg nI zl) ⟨rfl, I0⟩⟩⟩) (fun z => absurd g1 z))⟩⟩) (fun z => absurd g1 z)
      · obtain ⟨fTH, fco, fca, fen, fbw, fpr, fwa⟩ := id hF
        obtain ⟨e1, e2⟩ := fwa t zw
        have p3 := fpr t
        obtain ⟨b0, n0, hb0, hn0, hV0⟩ := tn_own hF hM hO hN t8 zl
        obtain ⟨b, n, B⟩ := tn_BE_ex (co := co) hb0 hn0 hV0
        have b5 := B.1
        have f6 : ∀ i, i < b + 2 → tn_pt (en t) b n i < 6 := fun i _ => tn_pt_lt (fen t)
        have M2 := tn_MV_put (k := t) (b := b) (n := n) hM fen zw B.1 B.2.1 B.2.2.1.1
        obtain ⟨ln', nd', M', O', N', X', Y'⟩ := tn_settle (up := up) (cl := cl) (av := av) hF M2
        have YY : ∀ post : Int32 → SY → Prop, (∀ (le' bc' : Int32) (pa' be' : Nat → Int32), (∀ i, i < b + 2 → be' i = nI (tn_pt (en t) b n i)) →
            wpY_isOnBest (fun r => (r = 0 → wpY_place (fun u => wpY_settle (fun _ u => post 1 u) u) (le', nI (b + 2), bc', th, tn_I co, tn_I ca, cl, up, wa, tn_I en, tn_I bw, tn_I pr, av, tn_I ln, tn_I nd, pa', be') (nI t)) ∧ (¬ r = 0 → post 0 (le', nI (b + 2), bc', th, tn_I co, tn_I ca, cl, up, wa, tn_I en, tn_I bw, tn_I pr, av, tn_I ln, tn_I nd, pa', be'))) (le', nI (b + 2), bc', th, tn_I co, tn_I ca, cl, up, wa, tn_I en, tn_I bw, tn_I pr, av, tn_I ln, tn_I nd, pa', be') (nI t)) → wpY_improve post (le, bl, bc, th, tn_I co, tn_I ca, cl, up, wa, tn_I en, tn_I bw, tn_I pr, av, tn_I ln, tn_I nd, pa, be) (nI t) := by
          intro post h
          unfold wpY_improve
          dsimp only
          rw [cc]
          refine tn_y_tn (fun _ => br_t rfl ⟨vc, br_f zw ⟨vc, br_f (nI_ne0 (by omega) (by omega)) ⟨vc, vc, vc, vc, ?_⟩⟩⟩) (fun z => absurd g1 z)
          refine tn_y_best (fen t) e2 (fbw t) (by omega) fpr hM.1 hM.2.1 fca fbw fco fun le' bl' bc' pa' be' => ⟨fun _ hno => absurd hV0 (hno b0 n0 hb0 hn0), fun b2 n2 B2 hbl hbc hbe => ?_⟩
          obtain ⟨q1, q2⟩ := tn_BE_uniq B B2
          subst q1; subst q2; subst hbl
          exact h le' bc' pa' be' hbe
        unfold wpX_improve
        dsimp only
        rw [cc]
        refine tn_x_tn (fun _ => br_f (by decide) ⟨vc, br_f (fun y => zw ((tn_SX_0 hS t8).1 y)) ⟨vc, br_t ((tn_SX_2 hS hM t8).2 zl) ?_⟩⟩) (fun z => absurd g1 z)
        refine tn_x_fit t8 fTH fpr fca fbw e2 fco fen hT fun op' rk' kk hop ek K => ⟨fun fit => br_f (by decide) ?_, fun fit => absurd (tn_VA_rk K (fen t) (fun c _ => fco c) hb0 hV0) fit⟩
        refine tn_x_trace t8 fen fbw hop fco ek K fit fun fn' f m hm5 R hg ef => ?_
        obtain ⟨b2, n2, hm, B2, hp', -⟩ := tn_TR_best K (fen t) e1 R hg
        obtain ⟨q1, q2⟩ := tn_BE_uniq B B2
        subst q1; subst q2; subst hm
        have ef' : ∀ i, i < b + 2 → fn' i = nI (tn_pt (en t) b n i) := fun i hi => by rw [ef i (by omega), hp' i (by omega)]
        refine tn_x_on (L := b + 2) (f := tn_pt (en t) b n) t8 (by omega) hM.1 hM.2.1 f6 ef' (fun S => br_f (by decide) ?_) (fun S => br_t rfl ?_)
        · refine YY _ fun le' bc' pa' be' hbe => tn_y_on t8 (by omega) hM.1 hM.2.1 f6 hbe (fun _ => br_f (by decide) ?_) (fun z => absurd S z)
          exact ⟨rfl, _, _, _, _, _, _, _, _, _, _, _, _, _, _, _, _, _, _, _, _, _, _, _, rfl, rfl, hF, hM, hO, hN, hS, hT⟩
        · refine tn_x_place (L := b + 2) (f := tn_pt (en t) b n) t8 (by omega) hM.1 f6 ef' hT fun st' tl' T' s1 s2 => ?_
          refine X' _ _ st' tl' op' rk' fn' (tn_SX_put hS zw (by omega) s1 s2) T' fun fl2 st2 tl2 op2 rk2 fn2 S2 T2 => ?_
          refine YY _ fun le' bc' pa' be' hbe => tn_y_on t8 (by omega) hM.1 hM.2.1 f6 hbe (fun z => absurd z S) (fun _ => br_t rfl ?_)
          refine tn_y_place (L := b + 2) (f := tn_pt (en t) b n) t8 (by omega) hbe ?_
          refine Y' _ le' _ bc' pa' be' fun le2 bl2 bc2 pa2 be2 => ?_
          exact ⟨rfl, _, _, _, _, _, _, _, _, _, _, _, _, _, _, _, _, _, _, _, _, _, _, _, rfl, rfl, hF, M', O', N', S2, T2⟩
  · unfold wpX_improve wpY_improve
    dsimp only
    exact tn_x_tn (fun g1 => absurd g1 g) (fun _ => br_t rfl (tn_y_tn (fun g1 => absurd g1 g) (fun _ => br_f (by decide) ⟨rfl, I0⟩)))
end
section
/-! quote, widest -/
theorem tn_least6 (P : Nat → Prop) (h : ∃ u, u < 6 ∧ P u) : ∃ u, u < 6 ∧ P u ∧ ∀ v, v < 6 → P v → u ≤ v := by
  obtain ⟨u, ⟨h1, h2⟩, h3⟩ := pk_least (fun u => u < 6 ∧ P u) h
  exact ⟨u, h1, h2, fun v hv hp => Nat.le_of_not_lt fun z => h3 v z ⟨hv, hp⟩⟩
/-- ranks have a walk -/
theorem tn_TR_ex {E : Nat → Prop} {w k : Nat → Nat} {g F : Nat} (hw : ∀ c, 1 ≤ w c) (K : tn_RK E w g F k) : ∀ N v, k v < N → v < 6 → k v < F → ∃ f m, tn_TR E w k v f m ∧ f m = g := by
  intro N
  induction N with
  | zero => intro v h; omega
  | succ N ih =>
    intro v hN hv hF
    by_cases hg : v = g
    · exact ⟨fun _ => v, 0, ⟨rfl, fun _ _ => hv, fun i hi => absurd hi (Nat.not_lt_zero i)⟩, hg⟩
    · obtain ⟨u, hu, ⟨h1, h2⟩, h3⟩ := tn_least6 (fun u => E (tn_cd v u) ∧ k u + w (tn_cd v u) = k v) (by
        obtain ⟨u, hu, a, b⟩ := K.2.2.2 v hv hg hF
        exact ⟨u, hu, a, b⟩)
      have := hw (tn_cd v u)
      obtain ⟨f, m, R, e⟩ := ih u (by omega) hu (by omega)
      refine ⟨fun i => match i with | 0 => v | i + 1 => f i, m + 1, ⟨rfl, fun i hi => ?_, fun i hi => ?_⟩, e⟩
      · cases i with
        | zero => exact hv
        | succ i => exact R.2.1 i (by omega)
      · cases i with
        | zero =>
          show E (tn_cd v (f 0)) ∧ k (f 0) + w (tn_cd v (f 0)) = k v ∧ ∀ u, u < 6 → E (tn_cd v u) → k u + w (tn_cd v u) = k v → f 0 ≤ u
          rw [R.1]
          exact ⟨h1, h2, fun x hx a b => h3 x hx ⟨a, b⟩⟩
        | succ i => exact R.2.2 i (by omega)
theorem tn_RK_best {E : Nat → Prop} {co k : Nat → Nat} {F e : Nat} (K : tn_RK E (tn_w co) (e % 6) F k) (h36 : e < 36) (hne : e / 6 ≠ e % 6) (hF : k (e / 6) < F) : ∃ b n, tn_BE E co e b n ∧ k (e / 6) = 8 * tn_CO co (tn_pt e b n) (b + 1) + (b + 1) := by
  obtain ⟨f, m, R, hg⟩ := tn_TR_ex tn_w_1 K _ (e / 6) (Nat.lt_succ_self _) (by omega) hF
  obtain ⟨b, n, -, B, -, h⟩ := tn_TR_best K h36 hne R hg
  exact ⟨b, n, B, h⟩
theorem i_vc_quote {k : Nat} {u : SX} {v : SY} (I : i_Rel k u v) (hk : k + 5 ≤ 2560) (v1 : Int32) (v2 : Int32) (v3 : Int32) : wpX_quote (fun r u' => wpY_quote (fun r' v' => r' = r ∧ i_Rel (k + 5) u' v') v v1 v2 v3) u v1 v2 v3 := by
  have I0 := I
  obtain ⟨fl, le, bl, bc, th, up, cl, av, st, wa, op, rk, fn, pa, be, co, ca, en, bw, pr, ln, nd, tl, rfl, rfl, hF, hM, hO, hN, hS, hT⟩ := I
  obtain ⟨fTH, fco, fca, fen, fbw, fpr, fwa⟩ := id hF
  rcases Classical.em (tn_of v1 v2 v3) with g | g
  · obtain ⟨g3, g4, g5⟩ := id g
    obtain ⟨e, he, he2, rfl⟩ := id g3
    obtain ⟨b, hb1, hb2, rfl⟩ := id g4
    obtain ⟨m, -, hm, rfl⟩ := id g5
    have e31 : e < 2 ^ 31 := by omega
    unfold wpX_quote
    dsimp only
    rw [tn_r8 (show m < 2 ^ 31 by omega), tn_d8 (show m < 2 ^ 31 by omega), tn_r6 e31, tn_d6 e31, nI_clamp (show e / 6 < 2 ^ 31 by omega)]
    refine tn_x_of (fun _ => br_f (by decide) ⟨tn_8, tn_8, ?_⟩) (fun z => absurd g z)
    refine tn_x_rooms (by omega) fpr fca fbw hT fun op' ho => ⟨tn_6, ?_⟩
    have hop := fun c (hc : c < 36) => tn_or_EU (th := th) (up := up) (cl := cl) (pr := pr) (ln := ln) (nd := nd) (bw := bw) (b := b) (a := nI (m % 8)) (q := -1) (p := m / 8) fca hb1 hb2 hc (ho c hc)
    refine tn_x_rank (tn_EU_gd fTH) hop fco (by omega) fun rk' kk ek K => ⟨tn_6, tn_v6 (by omega), nm_r (ek (e / 6) (by omega)) ?_⟩
    have kb := K.2.1 (e / 6) (by omega)
    have YY : ∀ post : Int32 → SY → Prop, wpY_findBest (fun r u => (r = 0 → post (-2) u) ∧ (¬ r = 0 → post u.2.2.1 u)) (le, bl, bc, th, tn_I co, tn_I ca, cl, up, wa, tn_I en, tn_I bw, tn_I pr, av, tn_I ln, tn_I nd, pa, be) (nI e) (nI b) (nI (m / 8)) (nI (m % 8)) (-1) → wpY_quote post (le, bl, bc, th, tn_I co, tn_I ca, cl, up, wa, tn_I en, tn_I bw, tn_I pr, av, tn_I ln, tn_I nd, pa, be) (nI e) (nI b) (nI m) := by
      intro post h
      unfold wpY_quote
      dsimp only
      rw [tn_r8 (show m < 2 ^ 31 by omega), tn_d8 (show m < 2 ^ 31 by omega)]
      exact tn_y_ge (fun _ => br_t rfl (tn_y_in 1 100 (by decide) (by decide) (fun _ => tn_y_tm (fun _ => br_t rfl ⟨tn_8, tn_8, h⟩) (fun z => absurd g5 z)) (fun z => absurd g4 z))) (fun z => absurd g3 z)
    refine pk_le 1000000 (kk (e / 6)) (fun z => YY _ ?_) (fun z => ⟨tn_8, YY _ ?_⟩) rfl rfl (by omega) (by omega)
    · refine tn_y_best he hb1 hb2 (by omega) fpr hM.1 hM.2.1 fca fbw fco fun le' bl' bc' pa' be' => ⟨fun _ _ => br_t rfl ⟨rfl, _, _, _, _, _, _, _, _, _, _, _, _, _, _, _, _, _, _, _, _, _, _, _, rfl, rfl, hF, hM, hO, hN, hS, hT⟩, fun b2 n2 B2 _ _ _ => ?_⟩
      have := tn_VA_rk K he (fun c _ => fco c) B2.1 B2.2.2.1
      omega
    · obtain ⟨b1, n1, B, ekk⟩ := tn_RK_best K he he2 z
      have b5 := B.1
      refine tn_y_best he hb1 hb2 (by omega) fpr hM.1 hM.2.1 fca fbw fco fun le' bl' bc' pa' be' => ⟨fun _ hno => absurd B.2.2.1 (hno b1 n1 B.1 B.2.1), fun b2 n2 B2 hbl hbc hbe => br_f (by decide) ?_⟩
      obtain ⟨q1, q2⟩ := tn_BE_uniq B B2
      subst q1; subst q2
      refine ⟨?_, _, _, _, _, _, _, _, _, _, _, _, _, _, _, _, _, _, _, _, _, _, _, _, rfl, rfl, hF, hM, hO, hN, hS, hT⟩
      show bc' = nI (kk (e / 6)) / 8
      rw [hbc, tn_d8 (by omega)]
      exact congrArg nI (by omega)
  · have YB : wpY_quote (fun r' v' => r' = -1 ∧ i_Rel (k + 5) (fl, th, up, tn_I co, tn_I ca, cl, st, tn_I en, tn_I bw, tn_I pr, av, tl, tn_I nd, tn_I ln, op, rk, fn) v') (le, bl, bc, th, tn_I co, tn_I ca, cl, up, wa, tn_I en, tn_I bw, tn_I pr, av, tn_I ln, tn_I nd, pa, be) v1 v2 v3 := by
      unfold wpY_quote
      dsimp only
      exact tn_y_ge (fun g3 => br_t rfl (tn_y_in 1 100 (by decide) (by decide) (fun g4 => tn_y_tm (fun g5 => absurd ⟨g3, g4, g5⟩ g) (fun _ => br_f (by decide) ⟨rfl, I0⟩)) (fun _ => ⟨rfl, I0⟩))) (fun _ => br_f (by decide) ⟨rfl, I0⟩)
    unfold wpX_quote
    dsimp only
    exact tn_x_of (fun z => absurd z g) (fun _ => br_t rfl YB)
/-- the widest path: which x fit, up to (b, n) -/
def tn_FB (E : Nat → Nat → Prop) (e b n x : Nat) : Prop := ∃ b' n', b' < 5 ∧ n' < 6 ^ b' ∧ tn_BF b n b' n' ∧ tn_VA (E x) e b' n'
def tn_MW (E : Nat → Nat → Prop) (e b n w : Nat) : Prop := w ≤ 100 ∧ ∀ x, 1 ≤ x → (tn_FB E e b n x ↔ x ≤ w)
theorem tn_MW_uniq {E : Nat → Nat → Prop} {e b n w w' : Nat} (h : tn_MW E e b n w) (h' : tn_MW E e b n w') : w = w' := by
  rcases Nat.lt_trichotomy w w' with z | z | z
  · have := (h.2 w' (by omega)).1 ((h'.2 w' (by omega)).2 (Nat.le_refl _))
    omega
  · exact z
  · have := (h'.2 w (by omega)).1 ((h.2 w (by omega)).2 (Nat.le_refl _))
    omega
theorem tn_MW_ex {E : Nat → Nat → Prop} {e : Nat} (hm : ∀ x y c, x ≤ y → E y c → E x c) (h1 : ∀ x c, E x c → x ≤ 100) : ∃ w, tn_MW E e 5 0 w := by
  have f100 : ∀ x, tn_FB E e 5 0 x → x ≤ 100 := fun x ⟨b, n, _, _, _, V⟩ => h1 x _ (V.2 0 (by omega))
  have mono : ∀ x y, x ≤ y → tn_FB E e 5 0 y → tn_FB E e 5 0 x := fun x y l ⟨b, n, a1, a2, a3, V⟩ => ⟨b, n, a1, a2, a3, V.1, fun i hi => hm x y _ l (V.2 i hi)⟩
  have key : ∀ i, i ≤ 100 → (∀ x, 100 - i < x → ¬ tn_FB E e 5 0 x) ∨ ∃ w, tn_MW E e 5 0 w := by
    intro i
    induction i with
    | zero => exact fun _ => Or.inl fun x hx f => by have := f100 x f; omega
    | succ i ih =>
      intro hi
      rcases ih (by omega) with I | I
      · rcases Classical.em (tn_FB E e 5 0 (100 - i)) with y | y
        · refine Or.inr ⟨100 - i, by omega, fun x hx => ⟨fun f => Nat.le_of_not_lt fun l => I x (by omega) f, fun l => mono x _ l y⟩⟩
        · refine Or.inl fun x hx => ?_
          by_cases z : x = 100 - i
          · subst z; exact y
          · exact I x (by omega)
      · exact Or.inr I
  rcases key 100 (Nat.le_refl _) with I | I
  · exact ⟨0, by omega, fun x hx => ⟨fun f => absurd f (I x (by omega)), fun l => by omega⟩⟩
  · exact I
theorem tn_MW_0 {E : Nat → Nat → Prop} {e : Nat} : tn_MW E e 0 0 0 := ⟨by omega, fun x hx => ⟨fun ⟨b', n', _, _, a, _⟩ => by unfold tn_BF at a; omega, fun l => by omega⟩⟩
theorem tn_MW_b {E : Nat → Nat → Prop} {e b w : Nat} (h : tn_MW E e b (6 ^ b) w) : tn_MW E e (b + 1) 0 w := by
  refine ⟨h.1, fun x hx => ?_⟩
  rw [← h.2 x hx]
  constructor
  · rintro ⟨b', n', a1, a2, a3, a4⟩
    refine ⟨b', n', a1, a2, ?_, a4⟩
    rcases a3 with a3 | a3
    · by_cases z : b' = b
      · subst z; exact Or.inr ⟨rfl, a2⟩
      · exact Or.inl (by omega)
    · omega
  · rintro ⟨b', n', a1, a2, a3, a4⟩
    refine ⟨b', n', a1, a2, ?_, a4⟩
    unfold tn_BF at *
    omega
theorem tn_FB_s {E : Nat → Nat → Prop} {e b n x : Nat} (hb : b < 5) (hn : n < 6 ^ b) : tn_FB E e b (n + 1) x ↔ tn_FB E e b n x ∨ tn_VA (E x) e b n := by
  constructor
  · rintro ⟨b', n', a1, a2, a3, a4⟩
    rcases tn_BF_s a3 with z | ⟨rfl, rfl⟩
    · exact Or.inl ⟨b', n', a1, a2, z, a4⟩
    · exact Or.inr a4
  · rintro (⟨b', n', a1, a2, a3, a4⟩ | a)
    · refine ⟨b', n', a1, a2, ?_, a4⟩
      unfold tn_BF at *
      omega
    · refine ⟨b, n, hb, hn, ?_, a⟩
      unfold tn_BF
      omega
end
section
/-! widest -/
section
variable {fl le bl bc : Int32} {th up cl av st wa op rk fn pa be : Nat → Int32} {co ca en bw pr ln nd : Nat → Nat} {tl : Nat → Int64}
abbrev tn_EX (th up cl : Nat → Int32) (a : Int32) (ca bw pr ln nd : Nat → Nat) (q : Int32) (p : Nat) : Nat → Nat → Prop := fun x c => tn_EU th up cl a ca bw pr ln nd q p x c
theorem tn_x_wide {post : Int32 → SX → Prop} {e p w : Nat} {a q : Int32} (he : e < 36) (he2 : e / 6 ≠ e % 6) (hF : tn_FX th wa co ca en bw pr) (ho : ∀ c, c < 36 → op c = nI (tn_or th up cl a ca bw pr ln nd q p c)) (W : tn_MW (tn_EX th up cl a ca bw pr ln nd q p) e 5 0 w)
    (h : ∀ rk', post (nI w) (fl, th, up, tn_I co, tn_I ca, cl, st, tn_I en, tn_I bw, tn_I pr, av, tl, tn_I nd, tn_I ln, op, rk', fn)) : ∃ n, wX_widest_32 post (nI e) n 100 fl th up (tn_I co) (tn_I ca) cl st (tn_I en) (tn_I bw) (tn_I pr) av tl (tn_I nd) (tn_I ln) op rk fn := by
  obtain ⟨fTH, fco, fca, fen, fbw, fpr, fwa⟩ := hF
  have e31 : e < 2 ^ 31 := by omega
  have key : ∀ i (rk : Nat → Int32), w ≤ i → i ≤ 100 → wX_widest_32 post (nI e) (i + 1) (nI i) fl th up (tn_I co) (tn_I ca) cl st (tn_I en) (tn_I bw) (tn_I pr) av tl (tn_I nd) (tn_I ln) op rk fn := by
    intro i
    induction i with
    | zero =>
      intro rk h1 h2
      have : w = 0 := by omega
      subst this
      exact br_t (by decide) (h rk)
    | succ i ih =>
      intro rk h1 h2
      rw [wX_widest_32, tn_r6 e31, tn_d6 e31, nI_clamp (show e / 6 < 2 ^ 31 by omega)]
      have hop := fun c (hc : c < 36) => tn_or_EU (th := th) (up := up) (cl := cl) (pr := pr) (ln := ln) (nd := nd) (bw := bw) (b := i + 1) (a := a) (q := q) (p := p) fca (by omega) h2 hc (ho c hc)
      refine br_f (nI_nlt (b := 1) (by omega) (by omega)) ⟨tn_6, tn_x_rank (tn_EU_gd fTH) hop fco (by omega) fun rk' kk ek K => ⟨tn_6, tn_v6 (by omega), ?_⟩⟩
      have kb := K.2.1 (e / 6) (by omega)
      refine pk_le 1000000 (kk (e / 6)) (fun z => nm_r (pk_m1 i) (ih rk' ?_ (by omega))) (fun z => ?_) rfl (ek (e / 6) (by omega)) (by omega) (by omega)
      · rcases Nat.lt_or_ge i w with l | l
        · have : w = i + 1 := by omega
          subst this
          obtain ⟨b', n', a1, a2, -, V⟩ := (W.2 (i + 1) (by omega)).2 (Nat.le_refl _)
          have := tn_VA_rk K he (fun c _ => fco c) a1 V
          omega
        · exact l
      · obtain ⟨b, n, B, -⟩ := tn_RK_best K he he2 z
        have := (W.2 (i + 1) (by omega)).1 ⟨b, n, B.1, B.2.1, Or.inl B.1, B.2.2.1⟩
        have : w = i + 1 := by omega
        subst this
        exact h rk'
  exact ⟨101, key 100 rk W.1 (Nat.le_refl _)⟩
abbrev tn_JW : Type := Int32 → Int32 → Int32 → Int32 → Int32 → (Nat → Int32) → (Nat → Int32) → (Nat → Int32) → (Nat → Int32) → (Nat → Int32) → (Nat → Int32) → (Nat → Int32) → (Nat → Int32) → (Nat → Int32) → (Nat → Int32) → (Nat → Int32) → (Nat → Int32) → (Nat → Int32) → (Nat → Int32) → Prop
theorem tn_y_wide {post : Int32 → SY → Prop} {e m : Nat} (he : e < 36) (hm : m < 32) (hF : tn_FX th wa co ca en bw pr) (hM : tn_MV wa en ln nd)
    (h : ∀ (w : Nat) (le' : Int32) (pa' : Nat → Int32), tn_MW (tn_EX th up cl (nI (m % 8)) ca bw pr ln nd (-1) (m / 8)) e 5 0 w → post (nI w) (le', bl, bc, th, tn_I co, tn_I ca, cl, up, wa, tn_I en, tn_I bw, tn_I pr, av, tn_I ln, tn_I nd, pa', be)) : ∃ n, wY_widest_23 post (nI e) (nI m) n 0 0 le bl bc th (tn_I co) (tn_I ca) cl up wa (tn_I en) (tn_I bw) (tn_I pr) av (tn_I ln) (tn_I nd) pa be := by
  obtain ⟨fTH, fco, fca, fen, fbw, fpr, fwa⟩ := hF
  have inner : ∀ (J : tn_JW) (b : Nat), b < 5 →
      (∀ (w : Nat) (le : Int32) (pa : Nat → Int32), tn_MW (tn_EX th up cl (nI (m % 8)) ca bw pr ln nd (-1) (m / 8)) e b (6 ^ b) w → J (nI w) (nI (b + 1)) le bl bc th (tn_I co) (tn_I ca) cl up wa (tn_I en) (tn_I bw) (tn_I pr) av (tn_I ln) (tn_I nd) pa be) →
      ∀ d n (w : Nat) (le : Int32) (pa : Nat → Int32), n + d = 6 ^ b → tn_MW (tn_EX th up cl (nI (m % 8)) ca bw pr ln nd (-1) (m / 8)) e b n w → wY_widest_32 post J (nI e) (nI m) (nI b) (d + 1) (nI w) (nI n) le bl bc th (tn_I co) (tn_I ca) cl up wa (tn_I en) (tn_I bw) (tn_I pr) av (tn_I ln) (tn_I nd) pa be := by
    intro J b hb hJ d
    have h6 := tn_p6 hb
    induction d with
    | zero =>
      intro n w le pa hn W
      have : n = 6 ^ b := by omega
      subst this
      rw [wY_widest_32]
      refine tn_y_nums hb ?_
      exact br_t (Int32.le_refl _) (nm_r (nI_1 b) (hJ w le pa W))
    | succ d ih =>
      intro n w le pa hn W
      have hn6 : n < 6 ^ b := by omega
      have w100 := W.1
      rw [wY_widest_32, tn_r8 (show m < 2 ^ 31 by omega), tn_d8 (show m < 2 ^ 31 by omega)]
      refine tn_y_nums hb ?_
      refine br_f (nI_ge hn6 (by omega)) ?_
      refine tn_y_mk he hb hn6 fun pa' ep => ⟨fun D => br_f (by decide) ⟨tn_8, tn_8, ?_⟩, fun D => br_t rfl (nm_r (nI_1 n) (ih (n + 1) w _ pa' (by omega) ⟨W.1, fun x hx => ?_⟩))⟩
      · refine tn_y_width (m := b + 1) (f := tn_pt e b n) (by omega) (by omega) (by omega) fpr hM.1 hM.2.1 fca fbw (fun i _ => tn_pt_lt he) ep fun r WS => ?_
        have VA : ∀ x, tn_VA (tn_EX th up cl (nI (m % 8)) ca bw pr ln nd (-1) (m / 8) x) e b n ↔ ∀ i, i < b + 1 → tn_EU th up cl (nI (m % 8)) ca bw pr ln nd (-1) (m / 8) x (tn_cd (tn_pt e b n i) (tn_pt e b n (i + 1))) := fun x => ⟨fun v => v.2, fun v => ⟨D, v⟩⟩
        rcases WS with ⟨r1, rA⟩ | ⟨y, y1, y2, rfl, rA⟩
        · refine br_t ?_ (nm_r (nI_1 n) (ih (n + 1) w _ pa' (by omega) ⟨W.1, fun x hx => ?_⟩))
          · rw [tn_lt1] at r1
            rw [Int32.le_iff_toInt_le, nI_toInt (by omega)]
            omega
          · rw [tn_FB_s hb hn6, VA x, W.2 x hx]
            exact ⟨fun z => z.elim id fun z => absurd z (rA x hx), Or.inl⟩
        · refine pk_le y w (fun l => nm_r (nI_1 n) (ih (n + 1) w _ pa' (by omega) ⟨W.1, fun x hx => ?_⟩)) (fun l => nm_r (nI_1 n) (ih (n + 1) y _ pa' (by omega) ⟨y2, fun x hx => ?_⟩))
          · have VB := (VA x).trans (rA x hx)
            rw [tn_FB_s hb hn6, VB, W.2 x hx]
            omega
          · have VB := (VA x).trans (rA x hx)
            rw [tn_FB_s hb hn6, VB, W.2 x hx]
            omega
      · rw [tn_FB_s hb hn6, W.2 x hx]
        exact ⟨fun z => z.elim id fun z => absurd z.1 D, Or.inl⟩
  have outer : ∀ d b (w : Nat) (le : Int32) (pa : Nat → Int32), b + d = 5 → tn_MW (tn_EX th up cl (nI (m % 8)) ca bw pr ln nd (-1) (m / 8)) e b 0 w → wY_widest_23 post (nI e) (nI m) (d + 1) (nI w) (nI b) le bl bc th (tn_I co) (tn_I ca) cl up wa (tn_I en) (tn_I bw) (tn_I pr) av (tn_I ln) (tn_I nd) pa be := by
    intro d
    induction d with
    | zero =>
      intro b w le pa hb W
      have : b = 5 := by omega
      subst this
      exact br_t (by decide) (h w le pa W)
    | succ d ih =>
      intro b w le pa hb W
      refine br_f (nI_ge (b := 5) (by omega) (by decide)) ⟨6 ^ b + 1, ?_⟩
      exact inner _ b (by omega) (fun w le pa W => ih (b + 1) w le pa (by omega) (tn_MW_b W)) (6 ^ b) 0 w le pa (by omega) W
  exact ⟨6, outer 5 0 0 le pa (by omega) tn_MW_0⟩
end
theorem i_vc_widest {k : Nat} {u : SX} {v : SY} (I : i_Rel k u v) (hk : k + 5 ≤ 2560) (v1 : Int32) (v2 : Int32) : wpX_widest (fun r u' => wpY_widest (fun r' v' => r' = r ∧ i_Rel (k + 5) u' v') v v1 v2) u v1 v2 := by
  have I0 := I
  obtain ⟨fl, le, bl, bc, th, up, cl, av, st, wa, op, rk, fn, pa, be, co, ca, en, bw, pr, ln, nd, tl, rfl, rfl, hF, hM, hO, hN, hS, hT⟩ := I
  obtain ⟨fTH, fco, fca, fen, fbw, fpr, fwa⟩ := id hF
  rcases Classical.em (tn_ge v1 ∧ tn_in v2 0 31) with g | g
  · obtain ⟨g3, g5⟩ := id g
    obtain ⟨e, he, he2, rfl⟩ := id g3
    obtain ⟨m, -, hm, rfl⟩ := id g5
    obtain ⟨w, W⟩ := tn_MW_ex (E := tn_EX th up cl (nI (m % 8)) ca bw pr ln nd (-1) (m / 8)) (e := e) (fun x y c l z => ⟨z.1, z.2.1, by have := z.2.2; omega⟩) (fun x c z => by have := z.2.2; have := fca c; omega)
    unfold wpX_widest
    dsimp only
    rw [tn_r8 (show m < 2 ^ 31 by omega), tn_d8 (show m < 2 ^ 31 by omega)]
    refine tn_x_ge (fun _ => br_f (by decide) (tn_x_tm (fun _ => br_f (by decide) ⟨tn_8, tn_8, ?_⟩) (fun z => absurd g5 z))) (fun z => absurd g3 z)
    refine tn_x_rooms (by omega) fpr fca fbw hT fun op' ho => ?_
    refine tn_x_wide he he2 hF ho W fun rk' => ?_
    unfold wpY_widest
    refine tn_y_ge (fun _ => br_t rfl (tn_y_tm (fun _ => br_t rfl ?_) (fun z => absurd g5 z))) (fun z => absurd g3 z)
    refine tn_y_wide he (by omega) hF hM fun w' le' pa' W' => ?_
    have e := tn_MW_uniq W W'
    subst e
    exact ⟨rfl, _, _, _, _, _, _, _, _, _, _, _, _, _, _, _, _, _, _, _, _, _, _, _, rfl, rfl, hF, hM, hO, hN, hS, hT⟩
  · have YB : wpY_widest (fun r' v' => r' = -1 ∧ i_Rel (k + 5) (fl, th, up, tn_I co, tn_I ca, cl, st, tn_I en, tn_I bw, tn_I pr, av, tl, tn_I nd, tn_I ln, op, rk, fn) v') (le, bl, bc, th, tn_I co, tn_I ca, cl, up, wa, tn_I en, tn_I bw, tn_I pr, av, tn_I ln, tn_I nd, pa, be) v1 v2 := by
      unfold wpY_widest
      dsimp only
      exact tn_y_ge (fun g3 => br_t rfl (tn_y_tm (fun g5 => absurd ⟨g3, g5⟩ g) (fun _ => br_f (by decide) ⟨rfl, I0⟩))) (fun _ => br_f (by decide) ⟨rfl, I0⟩)
    unfold wpX_widest
    dsimp only
    exact tn_x_ge (fun g3 => br_f (by decide) (tn_x_tm (fun g5 => absurd ⟨g3, g5⟩ g) (fun _ => br_t rfl YB))) (fun _ => br_t rfl YB)
end
section
/-! flow: both take the least cut -/
def tn_me (s a : Nat) : Prop := ((nI s >>> (nI a &&& 31)) &&& 1) = 1
theorem tn_and01 (x : Int32) : x &&& 1 = 0 ∨ x &&& 1 = 1 := by
  have h := pk_and x (m := 1) 1 (by decide)
  rw [h]
  have : x.toBitVec.toNat % 2 ^ 1 = 0 ∨ x.toBitVec.toNat % 2 ^ 1 = 1 := by omega
  rcases this with z | z <;> rw [z]
  · exact Or.inl rfl
  · exact Or.inr rfl
theorem tn_me0 {s a : Nat} : ((nI s >>> (nI a &&& 31)) &&& 1) = 0 ↔ ¬ tn_me s a := by
  unfold tn_me
  rcases tn_and01 (nI s >>> (nI a &&& 31)) with h | h <;> rw [h] <;> decide
theorem tn_meE {s a b : Nat} : ((nI s >>> (nI a &&& 31)) &&& 1) = ((nI s >>> (nI b &&& 31)) &&& 1) ↔ (tn_me s a ↔ tn_me s b) := by
  unfold tn_me
  rcases tn_and01 (nI s >>> (nI a &&& 31)) with h | h <;> rcases tn_and01 (nI s >>> (nI b &&& 31)) with h2 | h2 <;> rw [h, h2] <;> decide
theorem tn_x_me {post : Int32 → Prop} {s a : Nat} (h1 : tn_me s a → post 1) (h0 : ¬ tn_me s a → post 0) : wpX_hasMember post (nI s) (nI a) := ⟨h1, h0⟩
noncomputable def tn_cu (o : Nat → Nat) (s : Nat) : Nat := tn_sm (fun c => tn_q (¬ (tn_me s (c / 6) ↔ tn_me s (c % 6))) (o c)) 36
noncomputable def tn_mn (o : Nat → Nat) (e z : Nat) : Nat → Nat
  | 0 => z
  | i + 1 => @ite Nat ((tn_me i (e / 6) ∧ ¬ tn_me i (e % 6)) ∧ tn_cu o i < tn_mn o e z i) (Classical.propDecidable _) (tn_cu o i) (tn_mn o e z i)
theorem tn_mn_t {o : Nat → Nat} {e z i : Nat} (h : tn_me i (e / 6) ∧ ¬ tn_me i (e % 6)) (h2 : tn_cu o i < tn_mn o e z i) : tn_mn o e z (i + 1) = tn_cu o i := by simp only [tn_mn]; rw [if_pos ⟨h, h2⟩]
theorem tn_mn_f {o : Nat → Nat} {e z i : Nat} (h : ¬ ((tn_me i (e / 6) ∧ ¬ tn_me i (e % 6)) ∧ tn_cu o i < tn_mn o e z i)) : tn_mn o e z (i + 1) = tn_mn o e z i := by simp only [tn_mn]; rw [if_neg h]
theorem tn_cu_le {o : Nat → Nat} (ho : ∀ c, o c ≤ 100) (s : Nat) : tn_cu o s ≤ 3600 := tn_sm_bd (n := 36) (b := 100) fun c _ => Nat.le_trans tn_q_le (ho c)
theorem tn_mn_le {o : Nat → Nat} {e z : Nat} : ∀ i, tn_mn o e z i ≤ z
  | 0 => Nat.le_refl _
  | i + 1 => by
    have := tn_mn_le (o := o) (e := e) (z := z) i
    rcases Classical.em ((tn_me i (e / 6) ∧ ¬ tn_me i (e % 6)) ∧ tn_cu o i < tn_mn o e z i) with h | h
    · rw [tn_mn_t h.1 h.2]
      have := h.2
      omega
    · rw [tn_mn_f h]; exact this
theorem tn_mn_eq {o : Nat → Nat} {e : Nat} (ho : ∀ c, o c ≤ 100) : ∀ i, (tn_mn o e 1000000 i = 1000000 ∧ tn_mn o e 100000 i = 100000 ∧ ∀ j, j < i → ¬ (tn_me j (e / 6) ∧ ¬ tn_me j (e % 6))) ∨ tn_mn o e 1000000 i = tn_mn o e 100000 i
  | 0 => Or.inl ⟨rfl, rfl, fun j hj => absurd hj (Nat.not_lt_zero j)⟩
  | i + 1 => by
    have c := tn_cu_le ho i
    rcases tn_mn_eq (e := e) ho i with ⟨h1, h2, h3⟩ | h
    · rcases Classical.em (tn_me i (e / 6) ∧ ¬ tn_me i (e % 6)) with q | q
      · refine Or.inr ?_
        rw [tn_mn_t q (by omega), tn_mn_t q (by omega)]
      · refine Or.inl ⟨by rw [tn_mn_f (fun z => q z.1)]; exact h1, by rw [tn_mn_f (fun z => q z.1)]; exact h2, fun j hj => ?_⟩
        by_cases z : j = i
        · subst z; exact q
        · exact h3 j (by omega)
    · refine Or.inr ?_
      rcases Classical.em ((tn_me i (e / 6) ∧ ¬ tn_me i (e % 6)) ∧ tn_cu o i < tn_mn o e 1000000 i) with q | q
      · rw [tn_mn_t q.1 q.2, tn_mn_t q.1 (by rw [← h]; exact q.2)]
      · rw [tn_mn_f q, tn_mn_f (by rw [← h]; exact q)]
        exact h
theorem tn_me_ex : ∀ a, a < 6 → ∀ b, b < 6 → a ≠ b → (((nI (2 ^ a) >>> (nI a &&& 31)) &&& 1) = 1 ∧ ¬ ((nI (2 ^ a) >>> (nI b &&& 31)) &&& 1) = 1) := by decide +kernel
theorem tn_mn_64 {o : Nat → Nat} {e : Nat} (ho : ∀ c, o c ≤ 100) (he : e < 36) (he2 : e / 6 ≠ e % 6) : tn_mn o e 1000000 64 = tn_mn o e 100000 64 := by
  rcases tn_mn_eq (e := e) ho 64 with ⟨-, -, h⟩ | h
  · have p : 2 ^ (e / 6) < 64 := Nat.lt_of_le_of_lt (Nat.pow_le_pow_right (by decide) (show e / 6 ≤ 5 by omega)) (by decide)
    exact absurd (tn_me_ex (e / 6) (by omega) (e % 6) (by omega) he2) (h _ p)
  · exact h
section
variable {fl le bl bc : Int32} {th up cl av st wa op rk fn pa be : Nat → Int32} {co ca en bw pr ln nd : Nat → Nat} {tl : Nat → Int64}
theorem tn_x_out {post : Int32 → Prop} {s : Nat} {o : Nat → Nat} (ho : ∀ c, c < 36 → op c = nI (o c)) (h : post (nI (tn_cu o s))) : wpX_roomOutOf post (fl, th, up, tn_I co, tn_I ca, cl, st, tn_I en, tn_I bw, tn_I pr, av, tl, tn_I nd, tn_I ln, op, rk, fn) (nI s) := by
  have key : ∀ d i, i + d = 36 → wX_roomOutOf_4 post (nI s) fl th up (tn_I co) (tn_I ca) cl st (tn_I en) (tn_I bw) (tn_I pr) av tl (tn_I nd) (tn_I ln) op rk fn (d + 1) (nI (tn_sm (fun c => tn_q (¬ (tn_me s (c / 6) ↔ tn_me s (c % 6))) (o c)) i)) (nI i) := by
    intro d
    induction d with
    | zero =>
      intro i hi
      have : i = 36 := by omega
      subst this
      exact br_t (by decide) h
    | succ d ih =>
      intro i hi
      have q := ih (i + 1) (by omega)
      have i31 : i < 2 ^ 31 := by omega
      have same : (tn_me s (i / 6) ↔ tn_me s (i % 6)) → wX_roomOutOf_4 post (nI s) fl th up (tn_I co) (tn_I ca) cl st (tn_I en) (tn_I bw) (tn_I pr) av tl (tn_I nd) (tn_I ln) op rk fn (d + 1) (nI (tn_sm (fun c => tn_q (¬ (tn_me s (c / 6) ↔ tn_me s (c % 6))) (o c)) i)) (nI (i + 1)) := by
        intro z
        simp only [tn_sm, tn_q_f (show ¬ ¬ (tn_me s (i / 6) ↔ tn_me s (i % 6)) from fun y => y z), Nat.add_zero] at q
        exact q
      have diff : ¬ (tn_me s (i / 6) ↔ tn_me s (i % 6)) → (vp_in (nI i) 36 ∧ ∀ x2, x2 = nI (tn_sm (fun c => tn_q (¬ (tn_me s (c / 6) ↔ tn_me s (c % 6))) (o c)) i) + op (nI i).toNatClampNeg → ∀ x3, x3 = nI i + 1 → wX_roomOutOf_4 post (nI s) fl th up (tn_I co) (tn_I ca) cl st (tn_I en) (tn_I bw) (tn_I pr) av tl (tn_I nd) (tn_I ln) op rk fn (d + 1) x2 x3) := by
        intro z
        refine ⟨tn_v36 (by omega), nm_r ?_ (nm_r (nI_1 i) q)⟩
        rw [tn_cl op (by omega), ho i (by omega), nI_add]
        simp only [tn_sm, tn_q_t z]
      rw [wX_roomOutOf_4]
      dsimp only
      rw [tn_r6 i31, tn_d6 i31]
      refine br_f (tn_i36 (by omega)) ⟨tn_6, ?_⟩
      refine tn_x_me (fun a => ⟨tn_6, ?_⟩) (fun a => ⟨tn_6, ?_⟩)
      · exact tn_x_me (fun b => br_t rfl (nm_r (nI_1 i) (same ⟨fun _ => b, fun _ => a⟩))) (fun b => br_f (by decide) (diff fun y => b (y.1 a)))
      · exact tn_x_me (fun b => br_f (by decide) (diff fun y => a (y.2 b))) (fun b => br_t rfl (nm_r (nI_1 i) (same ⟨fun y => absurd y a, fun y => absurd y b⟩)))
  exact ⟨37, key 36 0 (by omega)⟩
theorem tn_x_flow {post : Int32 → SX → Prop} {e : Nat} {o : Nat → Nat} (he : e < 36) (ho1 : ∀ c, o c ≤ 100) (ho : ∀ c, c < 36 → op c = nI (o c)) (h : post (nI (tn_mn o e 1000000 64)) (fl, th, up, tn_I co, tn_I ca, cl, st, tn_I en, tn_I bw, tn_I pr, av, tl, tn_I nd, tn_I ln, op, rk, fn)) : ∃ n, wX_flow_35 post (nI e) fl th up (tn_I co) (tn_I ca) cl st (tn_I en) (tn_I bw) (tn_I pr) av tl (tn_I nd) (tn_I ln) op rk fn n 1000000 0 := by
  have e31 : e < 2 ^ 31 := by omega
  have key : ∀ d i, i + d = 64 → wX_flow_35 post (nI e) fl th up (tn_I co) (tn_I ca) cl st (tn_I en) (tn_I bw) (tn_I pr) av tl (tn_I nd) (tn_I ln) op rk fn (d + 1) (nI (tn_mn o e 1000000 i)) (nI i) := by
    intro d
    induction d with
    | zero =>
      intro i hi
      have : i = 64 := by omega
      subst this
      exact br_t (by decide) h
    | succ d ih =>
      intro i hi
      have q := ih (i + 1) (by omega)
      have m1 := tn_mn_le (o := o) (e := e) (z := 1000000) i
      have c1 := tn_cu_le ho1 i
      have stay : ¬ ((tn_me i (e / 6) ∧ ¬ tn_me i (e % 6)) ∧ tn_cu o i < tn_mn o e 1000000 i) → wX_flow_35 post (nI e) fl th up (tn_I co) (tn_I ca) cl st (tn_I en) (tn_I bw) (tn_I pr) av tl (tn_I nd) (tn_I ln) op rk fn (d + 1) (nI (tn_mn o e 1000000 i)) (nI (i + 1)) := by
        intro z
        rw [tn_mn_f z] at q
        exact q
      rw [wX_flow_35, tn_r6 e31, tn_d6 e31]
      refine br_f (nI_ge (b := 64) (by omega) (by decide)) ⟨tn_6, tn_x_me (fun a => br_f (by decide) ⟨tn_6, ?_⟩) (fun a => br_t rfl (nm_r (nI_1 i) (stay fun y => a y.1.1)))⟩
      refine tn_x_me (fun b => br_f (by decide) (nm_r (nI_1 i) (stay fun y => y.1.2 b))) (fun b => br_t rfl (tn_x_out ho ?_))
      refine pk_le (tn_mn o e 1000000 i) (tn_cu o i) (fun l => nm_r (nI_1 i) (stay fun y => by have := y.2; omega)) (fun l => nm_r (nI_1 i) ?_)
      rw [tn_mn_t ⟨a, b⟩ l] at q
      exact q
  exact ⟨65, key 64 0 (by omega)⟩
theorem tn_y_flow {post : Int32 → Prop} {e m : Nat} {o : Nat → Nat} (he : e < 36) (hm : m < 32) (ho1 : ∀ c, o c ≤ 100) (hF : tn_FX th wa co ca en bw pr) (hM : tn_MV wa en ln nd) (ho : ∀ c, c < 36 → o c = tn_or th up cl (nI (m % 8)) ca bw pr ln nd (-1) (m / 8) c) (h : post (nI (tn_mn o e 100000 64))) : ∃ n, wY_flow_24 post (nI e) (nI m) le bl bc th (tn_I co) (tn_I ca) cl up wa (tn_I en) (tn_I bw) (tn_I pr) av (tn_I ln) (tn_I nd) pa be n 100000 0 := by
  obtain ⟨fTH, fco, fca, fen, fbw, fpr, fwa⟩ := hF
  have e31 : e < 2 ^ 31 := by omega
  have m31 : m < 2 ^ 31 := by omega
  have inner : ∀ (J : Int32 → Int32 → Prop) (s z : Nat), z < 2 ^ 20 → s < 64 → (tn_cu o s < z → J (nI (tn_cu o s)) (nI (s + 1))) → (z ≤ tn_cu o s → J (nI z) (nI (s + 1))) → ∀ d i, i + d = 36 → wY_flow_62 post J (nI e) (nI m) (nI z) (nI s) le bl bc th (tn_I co) (tn_I ca) cl up wa (tn_I en) (tn_I bw) (tn_I pr) av (tn_I ln) (tn_I nd) pa be (d + 1) (nI (tn_sm (fun c => tn_q (¬ (tn_me s (c / 6) ↔ tn_me s (c % 6))) (o c)) i)) (nI i) := by
    intro J s z hz hs h1 h2 d
    induction d with
    | zero =>
      intro i hi
      have : i = 36 := by omega
      subst this
      have c1 := tn_cu_le ho1 s
      exact br_t (by decide) (pk_le z (tn_cu o s) (fun l => nm_r (nI_1 s) (h2 l)) (fun l => nm_r (nI_1 s) (h1 l)) rfl rfl (by omega) (by omega))
    | succ d ih =>
      intro i hi
      have q := ih (i + 1) (by omega)
      have i31 : i < 2 ^ 31 := by omega
      have i36 : i < 36 := by omega
      have stay : tn_q (¬ (tn_me s (i / 6) ↔ tn_me s (i % 6))) (o i) = 0 → wY_flow_62 post J (nI e) (nI m) (nI z) (nI s) le bl bc th (tn_I co) (tn_I ca) cl up wa (tn_I en) (tn_I bw) (tn_I pr) av (tn_I ln) (tn_I nd) pa be (d + 1) (nI (tn_sm (fun c => tn_q (¬ (tn_me s (c / 6) ↔ tn_me s (c % 6))) (o c)) i)) (nI (i + 1)) := by
        intro z
        simp only [tn_sm, z, Nat.add_zero] at q
        exact q
      rw [wY_flow_62]
      dsimp only
      rw [tn_r6 i31, tn_d6 i31]
      refine br_f (tn_i36 (by omega)) ⟨tn_6, tn_6, br_c (fun a => br_t rfl (nm_r (nI_1 i) (stay (tn_q_f fun y => y (tn_meE.1 a))))) (fun a => ?_)⟩
      have na : ¬ (tn_me s (i / 6) ↔ tn_me s (i % 6)) := fun y => a (tn_meE.2 y)
      refine br_f (by decide) ⟨tn_8, ?_⟩
      rw [tn_r8 m31, tn_d8 m31]
      have oi := ho i i36
      have l1 := fca i
      have l2 := tn_tk_le (pr := pr) (ln := ln) (nd := nd) fbw (-1) (m / 8) i
      unfold tn_or at oi
      refine tn_y_use i36 (fun op => br_f (by decide) ⟨tn_8, tn_y_room i36 (by omega) fpr hM.1 hM.2.1 ?_⟩) (fun op => br_t rfl (nm_r (nI_1 i) (stay (by rw [tn_q_t na, oi, tn_q_f op]))))
      rw [tn_q_t op] at oi
      by_cases w : ca i ≤ tn_tk bw pr ln nd (-1) (m / 8) i
      · exact br_t ((tn_room0 (by omega) (by omega)).2 w) (nm_r (nI_1 i) (stay (by rw [tn_q_t na, oi]; omega)))
      · refine br_f (fun y => w ((tn_room0 (by omega) (by omega)).1 y)) ⟨tn_8, tn_y_room i36 (by omega) fpr hM.1 hM.2.1 ?_⟩
        refine nm_r ?_ (nm_r (nI_1 i) q)
        rw [pk_sub (by omega), ← oi, nI_add]
        simp only [tn_sm, tn_q_t na]
  have key : ∀ d i, i + d = 64 → wY_flow_24 post (nI e) (nI m) le bl bc th (tn_I co) (tn_I ca) cl up wa (tn_I en) (tn_I bw) (tn_I pr) av (tn_I ln) (tn_I nd) pa be (d + 1) (nI (tn_mn o e 100000 i)) (nI i) := by
    intro d
    induction d with
    | zero =>
      intro i hi
      have : i = 64 := by omega
      subst this
      exact br_t (by decide) h
    | succ d ih =>
      intro i hi
      have q := ih (i + 1) (by omega)
      have m1 := tn_mn_le (o := o) (e := e) (z := 100000) i
      have stay : ¬ ((tn_me i (e / 6) ∧ ¬ tn_me i (e % 6)) ∧ tn_cu o i < tn_mn o e 100000 i) → wY_flow_24 post (nI e) (nI m) le bl bc th (tn_I co) (tn_I ca) cl up wa (tn_I en) (tn_I bw) (tn_I pr) av (tn_I ln) (tn_I nd) pa be (d + 1) (nI (tn_mn o e 100000 i)) (nI (i + 1)) := by
        intro z
        rw [tn_mn_f z] at q
        exact q
      rw [wY_flow_24, tn_r6 e31, tn_d6 e31]
      refine br_f (nI_ge (b := 64) (by omega) (by decide)) ⟨tn_6, br_c (fun a => ⟨tn_6, br_c (fun b => ⟨37, ?_⟩) (fun b => nm_r (nI_1 i) (stay fun y => b (tn_me0.2 y.1.2)))⟩) (fun a => nm_r (nI_1 i) (stay fun y => a y.1.1))⟩
      refine inner _ i (tn_mn o e 100000 i) (by omega) (by omega) (fun l => ?_) (fun l => stay fun y => by have := y.2; omega) 36 0 (by omega)
      rw [tn_mn_t ⟨a, tn_me0.1 b⟩ l] at q
      exact q
  exact ⟨65, key 64 0 (by omega)⟩
end
theorem i_vc_flow {k : Nat} {u : SX} {v : SY} (I : i_Rel k u v) (hk : k + 5 ≤ 2560) (v1 : Int32) (v2 : Int32) : wpX_flow (fun r u' => wpY_flow (fun r' => r' = r ∧ i_Rel (k + 5) u' v) v v1 v2) u v1 v2 := by
  have I0 := I
  obtain ⟨fl, le, bl, bc, th, up, cl, av, st, wa, op, rk, fn, pa, be, co, ca, en, bw, pr, ln, nd, tl, rfl, rfl, hF, hM, hO, hN, hS, hT⟩ := I
  obtain ⟨fTH, fco, fca, fen, fbw, fpr, fwa⟩ := id hF
  rcases Classical.em (tn_ge v1 ∧ tn_in v2 0 31) with g | g
  · obtain ⟨g3, g5⟩ := id g
    obtain ⟨e, he, he2, rfl⟩ := id g3
    obtain ⟨m, -, hm, rfl⟩ := id g5
    have o1 : ∀ c, tn_or th up cl (nI (m % 8)) ca bw pr ln nd (-1) (m / 8) c ≤ 100 := fun c => Nat.le_trans tn_q_le (Nat.le_trans (Nat.sub_le _ _) (fca c))
    unfold wpX_flow
    dsimp only
    rw [tn_r8 (show m < 2 ^ 31 by omega), tn_d8 (show m < 2 ^ 31 by omega)]
    refine tn_x_ge (fun _ => br_f (by decide) (tn_x_tm (fun _ => br_f (by decide) ⟨tn_8, tn_8, ?_⟩) (fun z => absurd g5 z))) (fun z => absurd g3 z)
    refine tn_x_rooms (by omega) fpr fca fbw hT fun op' ho => ?_
    refine tn_x_flow he o1 ho ?_
    unfold wpY_flow
    refine tn_y_ge (fun _ => br_t rfl (tn_y_tm (fun _ => br_t rfl ?_) (fun z => absurd g5 z))) (fun z => absurd g3 z)
    refine tn_y_flow he (by omega) o1 hF hM (fun c _ => rfl) ?_
    exact ⟨by rw [tn_mn_64 o1 he he2], _, _, _, _, _, _, _, _, _, _, _, _, _, _, _, _, _, _, _, _, _, _, _, rfl, rfl, hF, hM, hO, hN, hS, hT⟩
  · have YB : wpY_flow (fun r' => r' = -1 ∧ i_Rel (k + 5) (fl, th, up, tn_I co, tn_I ca, cl, st, tn_I en, tn_I bw, tn_I pr, av, tl, tn_I nd, tn_I ln, op, rk, fn) (le, bl, bc, th, tn_I co, tn_I ca, cl, up, wa, tn_I en, tn_I bw, tn_I pr, av, tn_I ln, tn_I nd, pa, be)) (le, bl, bc, th, tn_I co, tn_I ca, cl, up, wa, tn_I en, tn_I bw, tn_I pr, av, tn_I ln, tn_I nd, pa, be) v1 v2 := by
      unfold wpY_flow
      dsimp only
      exact tn_y_ge (fun g3 => br_t rfl (tn_y_tm (fun g5 => absurd ⟨g3, g5⟩ g) (fun _ => br_f (by decide) ⟨rfl, I0⟩))) (fun _ => br_f (by decide) ⟨rfl, I0⟩)
    unfold wpX_flow
    dsimp only
    exact tn_x_ge (fun g3 => br_f (by decide) (tn_x_tm (fun g5 => absurd ⟨g3, g5⟩ g) (fun _ => br_t rfl YB))) (fun _ => br_t rfl YB)
end
section
/-! bridge, groups: five rounds reach what six reach -/
def tn_js (a b s : Nat) : Nat := if s.testBit a || s.testBit b then s ||| (2 ^ a ||| 2 ^ b) else s
theorem tn_b1 : ∀ s, s < 64 → ∀ a, a < 6 → ∀ b, b < 6 → ((nI s &&& (((1 : Int32) <<< (nI a &&& 31)) ||| ((1 : Int32) <<< (nI b &&& 31)))) = 0 ↔ (s.testBit a || s.testBit b) = false) := by decide +kernel
theorem tn_b2 : ∀ s, s < 64 → ∀ a, a < 6 → ∀ b, b < 6 → nI s ||| (((1 : Int32) <<< (nI a &&& 31)) ||| ((1 : Int32) <<< (nI b &&& 31))) = nI (s ||| (2 ^ a ||| 2 ^ b)) := by decide +kernel
theorem tn_b3 : ∀ s, s < 64 → ∀ a, a < 6 → (((nI s >>> (nI a &&& 31)) &&& 1) = 1 ↔ s.testBit a = true) := by decide +kernel
theorem tn_b4 : ∀ s, s < 64 → ∀ a, a < 6 → ∀ b, b < 6 → s.testBit a = true → nI s ||| ((1 : Int32) <<< (nI b &&& 31)) = nI (s ||| (2 ^ a ||| 2 ^ b)) := by decide +kernel
theorem tn_b5 : ∀ s, s < 64 → ∀ a, a < 6 → ∀ b, b < 6 → s.testBit b = true → nI s ||| ((1 : Int32) <<< (nI a &&& 31)) = nI (s ||| (2 ^ a ||| 2 ^ b)) := by decide +kernel
theorem tn_b6 : ∀ s, s < 64 → ∀ a, a < 6 → ∀ b, b < 6 → tn_js a b s < 64 ∧ s &&& tn_js a b s = s := by decide +kernel
theorem tn_b7 : ∀ a, a < 6 → ((1 : Int32) <<< (nI a &&& 31)) = nI (2 ^ a) ∧ 2 ^ a < 64 := by decide +kernel
def tn_pc (s : Nat) : Nat := s % 2 + s / 2 % 2 + s / 4 % 2 + s / 8 % 2 + s / 16 % 2 + s / 32 % 2
theorem tn_b8 : ∀ s, s < 64 → ∀ t, t < 64 → s &&& t = s → s ≠ t → tn_pc s < tn_pc t := by decide +kernel
theorem tn_b9 : ∀ s, s < 64 → 6 ≤ tn_pc s → s = 63 := by decide +kernel
theorem tn_b10 : ∀ s, s < 64 → 63 &&& s = 63 → s = 63 := by decide +kernel
theorem tn_b11 : ∀ a, a < 6 → tn_pc (2 ^ a) = 1 := by decide +kernel
noncomputable def tn_st (U : Nat → Prop) (c s : Nat) : Nat := @ite Nat (U c) (Classical.propDecidable _) (tn_js (c / 6) (c % 6) s) s
theorem tn_st_t {U : Nat → Prop} {c s : Nat} (h : U c) : tn_st U c s = tn_js (c / 6) (c % 6) s := by unfold tn_st; rw [if_pos h]
theorem tn_st_f {U : Nat → Prop} {c s : Nat} (h : ¬ U c) : tn_st U c s = s := by unfold tn_st; rw [if_neg h]
noncomputable def tn_rd (U : Nat → Prop) (s : Nat) : Nat → Nat
  | 0 => s
  | c + 1 => tn_st U c (tn_rd U s c)
noncomputable def tn_it (U : Nat → Prop) (s : Nat) : Nat → Nat
  | 0 => s
  | n + 1 => tn_rd U (tn_it U s n) 36
theorem tn_sub_tr {s t r : Nat} (h1 : s &&& t = s) (h2 : t &&& r = t) : s &&& r = s := by
  rw [← h1, Nat.and_assoc, h2]
theorem tn_rd_sub {U : Nat → Prop} {s : Nat} (hs : s < 64) : ∀ c, c ≤ 36 → tn_rd U s c < 64 ∧ s &&& tn_rd U s c = s
  | 0, _ => ⟨hs, Nat.and_self s⟩
  | c + 1, hc => by
    have a := tn_rd_sub (U := U) hs c (by omega)
    simp only [tn_rd]
    rcases Classical.em (U c) with h | h
    · rw [tn_st_t h]
      have b := tn_b6 _ a.1 (c / 6) (by omega) (c % 6) (by omega)
      exact ⟨b.1, tn_sub_tr a.2 b.2⟩
    · rw [tn_st_f h]
      exact a
theorem tn_it_lt {U : Nat → Prop} {s : Nat} (hs : s < 64) : ∀ n, tn_it U s n < 64
  | 0 => hs
  | n + 1 => (tn_rd_sub (tn_it_lt hs n) 36 (Nat.le_refl _)).1
theorem tn_it_fix {U : Nat → Prop} {a : Nat} (ha : a < 6) : ∀ n, tn_it U (2 ^ a) (n + 1) = tn_it U (2 ^ a) n ∨ n + 1 ≤ tn_pc (tn_it U (2 ^ a) n)
  | 0 => Or.inr (by show 1 ≤ tn_pc (2 ^ a); rw [tn_b11 a ha]; omega)
  | n + 1 => by
    have l := tn_it_lt (U := U) (tn_b7 a ha).2 n
    have q := tn_rd_sub (U := U) l 36 (Nat.le_refl _)
    rcases tn_it_fix (U := U) ha n with h | h
    · refine Or.inl ?_
      show tn_rd U (tn_it U (2 ^ a) (n + 1)) 36 = _
      rw [h]
      exact h
    · by_cases z : tn_it U (2 ^ a) n = tn_it U (2 ^ a) (n + 1)
      · refine Or.inl ?_
        show tn_rd U (tn_it U (2 ^ a) (n + 1)) 36 = _
        rw [← z]
        exact z.symm
      · have := tn_b8 _ l _ q.1 q.2 z
        refine Or.inr ?_
        have e : tn_rd U (tn_it U (2 ^ a) n) 36 = tn_it U (2 ^ a) (n + 1) := rfl
        rw [e] at this
        omega
theorem tn_it_6 {U : Nat → Prop} {a : Nat} (ha : a < 6) : tn_it U (2 ^ a) 6 = tn_it U (2 ^ a) 5 := by
  rcases tn_it_fix (U := U) ha 5 with h | h
  · exact h
  · have l := tn_it_lt (U := U) (tn_b7 a ha).2 5
    have q := tn_rd_sub (U := U) l 36 (Nat.le_refl _)
    have e := tn_b9 _ l h
    show tn_rd U (tn_it U (2 ^ a) 5) 36 = _
    rw [e] at q ⊢
    exact tn_b10 _ q.1 q.2
section
variable {fl le bl bc : Int32} {th up cl av st wa op rk fn pa be : Nat → Int32} {co ca en bw pr ln nd : Nat → Nat} {tl : Nat → Int64}
def tn_U (th up : Nat → Int32) (q : Int32) (c : Nat) : Prop := ¬ nI c = q ∧ th c ≠ 0 ∧ up c ≠ 0
theorem tn_x_reach {post : Int32 → Prop} {a : Nat} {q : Int32} (ha : a < 6) (h : post (nI (tn_it (tn_U th up q) (2 ^ a) 5))) : wpX_reachedFrom post (fl, th, up, tn_I co, tn_I ca, cl, st, tn_I en, tn_I bw, tn_I pr, av, tl, tn_I nd, tn_I ln, op, rk, fn) (nI a) q := by
  have inner : ∀ (J : Int32 → Int32 → Prop) (y s : Nat), s < 64 → J (nI (tn_rd (tn_U th up q) s 36)) (nI (y + 1)) → ∀ d c, c + d = 36 → wX_reachedFrom_17 post J q (nI y) fl th up (tn_I co) (tn_I ca) cl st (tn_I en) (tn_I bw) (tn_I pr) av tl (tn_I nd) (tn_I ln) op rk fn (d + 1) (nI (tn_rd (tn_U th up q) s c)) (nI c) := by
    intro J y s hs hJ d
    induction d with
    | zero =>
      intro c hc
      have : c = 36 := by omega
      subst this
      exact br_t (by decide) (nm_r (nI_1 y) hJ)
    | succ d ih =>
      intro c hc
      have r := ih (c + 1) (by omega)
      have l := (tn_rd_sub (U := tn_U th up q) hs c (by omega)).1
      have c31 : c < 2 ^ 31 := by omega
      have stay : tn_st (tn_U th up q) c (tn_rd (tn_U th up q) s c) = tn_rd (tn_U th up q) s c → wX_reachedFrom_17 post J q (nI y) fl th up (tn_I co) (tn_I ca) cl st (tn_I en) (tn_I bw) (tn_I pr) av tl (tn_I nd) (tn_I ln) op rk fn (d + 1) (nI (tn_rd (tn_U th up q) s c)) (nI (c + 1)) := by
        intro z
        simp only [tn_rd, z] at r
        exact r
      have b1 := tn_b1 _ l (c / 6) (by omega) (c % 6) (by omega)
      have b2 := tn_b2 _ l (c / 6) (by omega) (c % 6) (by omega)
      rw [wX_reachedFrom_17]
      dsimp only
      rw [tn_r6 c31, tn_d6 c31, nI_clamp c31]
      refine br_f (tn_i36 (by omega)) ⟨tn_6, tn_6, nm_e (br_c (fun z => nm_r (nI_1 c) (stay (tn_st_f fun y => y.1 z))) (fun z1 => ⟨tn_v36 (by omega), br_c (fun z => nm_r (nI_1 c) (stay (tn_st_f fun y => y.2.1 z))) (fun z2 => ⟨tn_v36 (by omega), br_c (fun z => nm_r (nI_1 c) (stay (tn_st_f fun y => y.2.2 z))) (fun z3 => ?_)⟩)⟩))⟩
      have u : tn_U th up q c := ⟨z1, z2, z3⟩
      refine br_c (fun z => nm_r (nI_1 c) (stay ?_)) (fun z => nm_r ?_ (nm_r (nI_1 c) r))
      · rw [tn_st_t u, tn_js, if_neg (by rw [b1.1 z]; decide)]
      · rw [b2]
        simp only [tn_rd]
        rw [tn_st_t u, tn_js, if_pos]
        exact Classical.byContradiction fun w => z (b1.2 (Bool.eq_false_iff.2 w))
  have outer : ∀ d n, n + d = 5 → wX_reachedFrom_7 post q fl th up (tn_I co) (tn_I ca) cl st (tn_I en) (tn_I bw) (tn_I pr) av tl (tn_I nd) (tn_I ln) op rk fn (d + 1) (nI (tn_it (tn_U th up q) (2 ^ a) n)) (nI (n + 1)) := by
    intro d
    induction d with
    | zero =>
      intro n hn
      have : n = 5 := by omega
      subst this
      exact br_t (by decide) h
    | succ d ih =>
      intro n hn
      exact br_f (tn_i6 (by omega)) ⟨37, inner _ (n + 1) _ (tn_it_lt (tn_b7 a ha).2 n) (ih (n + 1) (by omega)) 36 0 (by omega)⟩
  exact nm_r (tn_b7 a ha).1 ⟨6, outer 5 0 (by omega)⟩
theorem tn_y_reach {post : Int32 → Prop} {a : Nat} {q : Int32} (ha : a < 6) (h : post (nI (tn_it (tn_U th up q) (2 ^ a) 6))) : wpY_reached post (le, bl, bc, th, tn_I co, tn_I ca, cl, up, wa, tn_I en, tn_I bw, tn_I pr, av, tn_I ln, tn_I nd, pa, be) (nI a) q := by
  have inner : ∀ (J : Int32 → Int32 → Prop) (y s : Nat), s < 64 → J (nI (tn_rd (tn_U th up q) s 36)) (nI (y + 1)) → ∀ d c, c + d = 36 → wY_reached_17 post J q (nI y) le bl bc th (tn_I co) (tn_I ca) cl up wa (tn_I en) (tn_I bw) (tn_I pr) av (tn_I ln) (tn_I nd) pa be (d + 1) (nI (tn_rd (tn_U th up q) s c)) (nI c) := by
    intro J y s hs hJ d
    induction d with
    | zero =>
      intro c hc
      have : c = 36 := by omega
      subst this
      exact br_t (by decide) (nm_r (nI_1 y) hJ)
    | succ d ih =>
      intro c hc
      have r := ih (c + 1) (by omega)
      have l := (tn_rd_sub (U := tn_U th up q) hs c (by omega)).1
      have c31 : c < 2 ^ 31 := by omega
      have stay : tn_st (tn_U th up q) c (tn_rd (tn_U th up q) s c) = tn_rd (tn_U th up q) s c → wY_reached_17 post J q (nI y) le bl bc th (tn_I co) (tn_I ca) cl up wa (tn_I en) (tn_I bw) (tn_I pr) av (tn_I ln) (tn_I nd) pa be (d + 1) (nI (tn_rd (tn_U th up q) s c)) (nI (c + 1)) := by
        intro z
        simp only [tn_rd, z] at r
        exact r
      have b3 := tn_b3 _ l (c / 6) (by omega)
      have b3' := tn_b3 _ l (c % 6) (by omega)
      have b4 := tn_b4 _ l (c / 6) (by omega) (c % 6) (by omega)
      have b5 := tn_b5 _ l (c / 6) (by omega) (c % 6) (by omega)
      rw [wY_reached_17]
      dsimp only
      rw [tn_r6 c31, tn_d6 c31, nI_clamp c31]
      refine br_f (tn_i36 (by omega)) (br_c (fun z => nm_r (nI_1 c) (stay (tn_st_f fun y => y.1 z))) (fun z1 => ⟨tn_v36 (by omega), br_c (fun z => nm_r (nI_1 c) (stay (tn_st_f fun y => y.2.1 z))) (fun z2 => ⟨tn_v36 (by omega), br_c (fun z => nm_r (nI_1 c) (stay (tn_st_f fun y => y.2.2 z))) (fun z3 => ⟨tn_6, ?_⟩)⟩)⟩))
      have u : tn_U th up q c := ⟨z1, z2, z3⟩
      simp only [tn_rd, tn_st_t u] at r
      unfold tn_js at r
      refine br_c (fun z => ⟨tn_6, ?_⟩) (fun z => ⟨tn_6, br_c (fun w => ⟨tn_6, ?_⟩) (fun w => nm_r (nI_1 c) (stay ?_))⟩)
      · rw [if_pos (by rw [b3.1 z]; rfl)] at r
        exact nm_r (b4 (b3.1 z)) (nm_r (nI_1 c) r)
      · rw [if_pos (by rw [b3'.1 w, Bool.or_true])] at r
        exact nm_r (b5 (b3'.1 w)) (nm_r (nI_1 c) r)
      · rw [tn_st_t u, tn_js, if_neg]
        rw [Bool.eq_false_iff.2 (fun v => z (b3.2 v)), Bool.eq_false_iff.2 (fun v => w (b3'.2 v))]
        decide
  have outer : ∀ d n, n + d = 6 → wY_reached_7 post q le bl bc th (tn_I co) (tn_I ca) cl up wa (tn_I en) (tn_I bw) (tn_I pr) av (tn_I ln) (tn_I nd) pa be (d + 1) (nI (tn_it (tn_U th up q) (2 ^ a) n)) (nI n) := by
    intro d
    induction d with
    | zero =>
      intro n hn
      have : n = 6 := by omega
      subst this
      exact br_t (by decide) h
    | succ d ih =>
      intro n hn
      exact br_f (tn_i6 (by omega)) ⟨37, inner _ n _ (tn_it_lt (tn_b7 a ha).2 n) (ih (n + 1) (by omega)) 36 0 (by omega)⟩
  exact nm_r (tn_b7 a ha).1 ⟨7, outer 6 0 (by omega)⟩
noncomputable def tn_gr (th up : Nat → Int32) : Nat → Nat
  | 0 => 0
  | i + 1 => tn_gr th up i + tn_q ((nI (tn_it (tn_U th up (-1)) (2 ^ i) 5) &&& (((1 : Int32) <<< (nI i &&& 31)) - 1)) = 0) 1
theorem tn_x_gr {post : Int32 → Prop} (h : post (nI (tn_gr th up 6))) : wpX_groups post (fl, th, up, tn_I co, tn_I ca, cl, st, tn_I en, tn_I bw, tn_I pr, av, tl, tn_I nd, tn_I ln, op, rk, fn) := by
  have key : ∀ d i, i + d = 6 → wX_groups_4 post fl th up (tn_I co) (tn_I ca) cl st (tn_I en) (tn_I bw) (tn_I pr) av tl (tn_I nd) (tn_I ln) op rk fn (d + 1) (nI (tn_gr th up i)) (nI i) := by
    intro d
    induction d with
    | zero =>
      intro i hi
      have : i = 6 := by omega
      subst this
      exact br_t (by decide) h
    | succ d ih =>
      intro i hi
      have q := ih (i + 1) (by omega)
      rw [wX_groups_4]
      refine br_f (tn_i6 (by omega)) (tn_x_reach (by omega) (nm_e (br_c (fun z => ?_) (fun z => ?_))))
      · simp only [tn_gr, tn_q_t z] at q
        exact nm_r (nI_1 _) (nm_r (nI_1 i) q)
      · simp only [tn_gr, tn_q_f z, Nat.add_zero] at q
        exact nm_r (nI_1 i) q
  exact ⟨7, key 6 0 (by omega)⟩
theorem tn_y_gr {post : Int32 → Prop} (h : post (nI (tn_gr th up 6))) : wpY_groups post (le, bl, bc, th, tn_I co, tn_I ca, cl, up, wa, tn_I en, tn_I bw, tn_I pr, av, tn_I ln, tn_I nd, pa, be) := by
  have key : ∀ d i, i + d = 6 → wY_groups_4 post le bl bc th (tn_I co) (tn_I ca) cl up wa (tn_I en) (tn_I bw) (tn_I pr) av (tn_I ln) (tn_I nd) pa be (d + 1) (nI (tn_gr th up i)) (nI i) := by
    intro d
    induction d with
    | zero =>
      intro i hi
      have : i = 6 := by omega
      subst this
      exact br_t (by decide) h
    | succ d ih =>
      intro i hi
      have q := ih (i + 1) (by omega)
      rw [wY_groups_4]
      refine br_f (tn_i6 (by omega)) (nm_e (tn_y_reach (by omega) ?_))
      rw [tn_it_6 (show i < 6 by omega)]
      refine br_c (fun z => ?_) (fun z => ?_)
      · simp only [tn_gr, tn_q_t z] at q
        exact nm_r (nI_1 _) (nm_r (nI_1 i) q)
      · simp only [tn_gr, tn_q_f z, Nat.add_zero] at q
        exact nm_r (nI_1 i) q
  exact ⟨7, key 6 0 (by omega)⟩
end
end
section
theorem i_vc_bridge {k : Nat} {u : SX} {v : SY} (I : i_Rel k u v) (hk : k + 5 ≤ 2560) (v1 : Int32) : wpX_bridge (fun r => wpY_bridge (fun r' => r' = r ∧ i_Rel (k + 5) u v) v v1) u v1 := by
  have I0 : i_Rel (k + 5) u v := I
  generalize i_Rel (k + 5) u v = P at I0
  obtain ⟨fl, le, bl, bc, th, up, cl, av, st, wa, op, rk, fn, pa, be, co, ca, en, bw, pr, ln, nd, tl, rfl, rfl, hF, hM, hO, hN, hS, hT⟩ := I
  unfold wpX_bridge wpY_bridge
  dsimp only
  rcases Classical.em (tn_gc v1) with g1 | g
  · obtain ⟨c, hc, hc2, rfl⟩ := id g1
    have c31 : c < 2 ^ 31 := by omega
    have vc := tn_v36 hc
    rw [nI_clamp c31, tn_r6 c31, tn_d6 c31]
    refine tn_x_gc (fun _ => br_f (by decide) ⟨vc, br_c (fun z => ?_) (fun z => ⟨vc, br_c (fun y => ?_) (fun y => ⟨tn_6, tn_x_reach (by omega) ⟨tn_6, ?_⟩⟩)⟩)⟩) (fun z => absurd g1 z)
    · exact tn_y_gc (fun _ => br_t rfl ⟨vc, br_t z ⟨rfl, I0⟩⟩) (fun z => absurd g1 z)
    · exact tn_y_gc (fun _ => br_t rfl ⟨vc, br_f z ⟨vc, br_t y ⟨rfl, I0⟩⟩⟩) (fun z => absurd g1 z)
    · have YY : ∀ post : Int32 → Prop, (((nI (tn_it (tn_U th up (nI c)) (2 ^ (c / 6)) 5) >>> (nI (c % 6) &&& 31)) &&& 1) = 0 → post 1) ∧ (¬ ((nI (tn_it (tn_U th up (nI c)) (2 ^ (c / 6)) 5) >>> (nI (c % 6) &&& 31)) &&& 1) = 0 → post 0) → wpY_bridge post (le, bl, bc, th, tn_I co, tn_I ca, cl, up, wa, tn_I en, tn_I bw, tn_I pr, av, tn_I ln, tn_I nd, pa, be) (nI c) := by
        intro post h
        unfold wpY_bridge
        dsimp only
        rw [nI_clamp c31, tn_r6 c31, tn_d6 c31]
        refine tn_y_gc (fun _ => br_t rfl ⟨vc, br_f z ⟨vc, br_f y ⟨tn_6, tn_y_reach (by omega) ⟨tn_6, ?_⟩⟩⟩⟩) (fun z => absurd g1 z)
        rw [tn_it_6 (show c / 6 < 6 by omega)]
        exact h
      have Y2 := YY
      unfold wpY_bridge at Y2
      dsimp only at Y2
      rw [nI_clamp c31, tn_r6 c31, tn_d6 c31] at Y2
      exact tn_x_me (fun a => br_f (by decide) (Y2 (fun r' => r' = 0 ∧ P) (br_f (fun w => tn_me0.1 w a) ⟨rfl, I0⟩))) (fun a => br_t rfl (Y2 (fun r' => r' = 1 ∧ P) (br_t (tn_me0.2 a) ⟨rfl, I0⟩)))
  · exact tn_x_gc (fun g1 => absurd g1 g) (fun _ => br_t rfl (tn_y_gc (fun g1 => absurd g1 g) (fun _ => br_f (by decide) ⟨rfl, I0⟩)))
theorem i_vc_groups {k : Nat} {u : SX} {v : SY} (I : i_Rel k u v) (hk : k + 5 ≤ 2560) : wpX_groups (fun r => wpY_groups (fun r' => r' = r ∧ i_Rel (k + 5) u v) v) u := by
  have I0 : i_Rel (k + 5) u v := I
  generalize i_Rel (k + 5) u v = P at I0
  obtain ⟨fl, le, bl, bc, th, up, cl, av, st, wa, op, rk, fn, pa, be, co, ca, en, bw, pr, ln, nd, tl, rfl, rfl, hF, hM, hO, hN, hS, hT⟩ := I
  exact tn_x_gr (tn_y_gr ⟨rfl, I0⟩)
end
