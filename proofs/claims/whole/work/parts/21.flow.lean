/-! flow: both take the least cut -/
def tn_me (s a : Nat) : Prop := ((nI s >>> (nI a &&& 31)) &&& 1) = 1
theorem tn_and01 (x : Int32) : x &&& 1 = 0 ∨ x &&& 1 = 1 := by
  have h := pk_and x (m := 1) 1 (by decide)
  rw [h]
  have : x.toBitVec.toNat % 2 ^ 1 = 0 ∨ x.toBitVec.toNat % 2 ^ 1 = 1 := by omega
  rcases this with z | z <;> rw [z]
  · exact Or.inl rfl
  · exact Or.inr rfl
theorem tn_me0 {s a : Nat} : ((nI s >>> (nI a &&& 31)) &&& 1) = 0 ↔ ¬ tn_me s a := by
  unfold tn_me
  rcases tn_and01 (nI s >>> (nI a &&& 31)) with h | h <;> rw [h] <;> decide
theorem tn_meE {s a b : Nat} : ((nI s >>> (nI a &&& 31)) &&& 1) = ((nI s >>> (nI b &&& 31)) &&& 1) ↔ (tn_me s a ↔ tn_me s b) := by
  unfold tn_me
  rcases tn_and01 (nI s >>> (nI a &&& 31)) with h | h <;> rcases tn_and01 (nI s >>> (nI b &&& 31)) with h2 | h2 <;> rw [h, h2] <;> decide
theorem tn_x_me {post : Int32 → Prop} {s a : Nat} (h1 : tn_me s a → post 1) (h0 : ¬ tn_me s a → post 0) : wpX_hasMember post (nI s) (nI a) := ⟨h1, h0⟩
noncomputable def tn_cu (o : Nat → Nat) (s : Nat) : Nat := tn_sm (fun c => tn_q (¬ (tn_me s (c / 6) ↔ tn_me s (c % 6))) (o c)) 36
noncomputable def tn_mn (o : Nat → Nat) (e z : Nat) : Nat → Nat
  | 0 => z
  | i + 1 => @ite Nat ((tn_me i (e / 6) ∧ ¬ tn_me i (e % 6)) ∧ tn_cu o i < tn_mn o e z i) (Classical.propDecidable _) (tn_cu o i) (tn_mn o e z i)
theorem tn_mn_t {o : Nat → Nat} {e z i : Nat} (h : tn_me i (e / 6) ∧ ¬ tn_me i (e % 6)) (h2 : tn_cu o i < tn_mn o e z i) : tn_mn o e z (i + 1) = tn_cu o i := by simp only [tn_mn]; rw [if_pos ⟨h, h2⟩]
theorem tn_mn_f {o : Nat → Nat} {e z i : Nat} (h : ¬ ((tn_me i (e / 6) ∧ ¬ tn_me i (e % 6)) ∧ tn_cu o i < tn_mn o e z i)) : tn_mn o e z (i + 1) = tn_mn o e z i := by simp only [tn_mn]; rw [if_neg h]
theorem tn_cu_le {o : Nat → Nat} (ho : ∀ c, o c ≤ 100) (s : Nat) : tn_cu o s ≤ 3600 := tn_sm_bd (n := 36) (b := 100) fun c _ => Nat.le_trans tn_q_le (ho c)
theorem tn_mn_le {o : Nat → Nat} {e z : Nat} : ∀ i, tn_mn o e z i ≤ z
  | 0 => Nat.le_refl _
  | i + 1 => by
    have := tn_mn_le (o := o) (e := e) (z := z) i
    rcases Classical.em ((tn_me i (e / 6) ∧ ¬ tn_me i (e % 6)) ∧ tn_cu o i < tn_mn o e z i) with h | h
    · rw [tn_mn_t h.1 h.2]
      have := h.2
      omega
    · rw [tn_mn_f h]; exact this
theorem tn_mn_eq {o : Nat → Nat} {e : Nat} (ho : ∀ c, o c ≤ 100) : ∀ i, (tn_mn o e 1000000 i = 1000000 ∧ tn_mn o e 100000 i = 100000 ∧ ∀ j, j < i → ¬ (tn_me j (e / 6) ∧ ¬ tn_me j (e % 6))) ∨ tn_mn o e 1000000 i = tn_mn o e 100000 i
  | 0 => Or.inl ⟨rfl, rfl, fun j hj => absurd hj (Nat.not_lt_zero j)⟩
  | i + 1 => by
    have c := tn_cu_le ho i
    rcases tn_mn_eq (e := e) ho i with ⟨h1, h2, h3⟩ | h
    · rcases Classical.em (tn_me i (e / 6) ∧ ¬ tn_me i (e % 6)) with q | q
      · refine Or.inr ?_
        rw [tn_mn_t q (by omega), tn_mn_t q (by omega)]
      · refine Or.inl ⟨by rw [tn_mn_f (fun z => q z.1)]; exact h1, by rw [tn_mn_f (fun z => q z.1)]; exact h2, fun j hj => ?_⟩
        by_cases z : j = i
        · subst z; exact q
        · exact h3 j (by omega)
    · refine Or.inr ?_
      rcases Classical.em ((tn_me i (e / 6) ∧ ¬ tn_me i (e % 6)) ∧ tn_cu o i < tn_mn o e 1000000 i) with q | q
      · rw [tn_mn_t q.1 q.2, tn_mn_t q.1 (by rw [← h]; exact q.2)]
      · rw [tn_mn_f q, tn_mn_f (by rw [← h]; exact q)]
        exact h
theorem tn_me_ex : ∀ a, a < 6 → ∀ b, b < 6 → a ≠ b → (((nI (2 ^ a) >>> (nI a &&& 31)) &&& 1) = 1 ∧ ¬ ((nI (2 ^ a) >>> (nI b &&& 31)) &&& 1) = 1) := by decide +kernel
theorem tn_mn_64 {o : Nat → Nat} {e : Nat} (ho : ∀ c, o c ≤ 100) (he : e < 36) (he2 : e / 6 ≠ e % 6) : tn_mn o e 1000000 64 = tn_mn o e 100000 64 := by
  rcases tn_mn_eq (e := e) ho 64 with ⟨-, -, h⟩ | h
  · have p : 2 ^ (e / 6) < 64 := Nat.lt_of_le_of_lt (Nat.pow_le_pow_right (by decide) (show e / 6 ≤ 5 by omega)) (by decide)
    exact absurd (tn_me_ex (e / 6) (by omega) (e % 6) (by omega) he2) (h _ p)
  · exact h
section
variable {fl le bl bc : Int32} {th up cl av st wa op rk fn pa be : Nat → Int32} {co ca en bw pr ln nd : Nat → Nat} {tl : Nat → Int64}
theorem tn_x_out {post : Int32 → Prop} {s : Nat} {o : Nat → Nat} (ho : ∀ c, c < 36 → op c = nI (o c)) (h : post (nI (tn_cu o s))) : wpX_roomOutOf post (fl, th, up, tn_I co, tn_I ca, cl, st, tn_I en, tn_I bw, tn_I pr, av, tl, tn_I nd, tn_I ln, op, rk, fn) (nI s) := by
  have key : ∀ d i, i + d = 36 → wX_roomOutOf_4 post (nI s) fl th up (tn_I co) (tn_I ca) cl st (tn_I en) (tn_I bw) (tn_I pr) av tl (tn_I nd) (tn_I ln) op rk fn (d + 1) (nI (tn_sm (fun c => tn_q (¬ (tn_me s (c / 6) ↔ tn_me s (c % 6))) (o c)) i)) (nI i) := by
    intro d
    induction d with
    | zero =>
      intro i hi
      have : i = 36 := by omega
      subst this
      exact br_t (by decide) h
    | succ d ih =>
      intro i hi
      have q := ih (i + 1) (by omega)
      have i31 : i < 2 ^ 31 := by omega
      have same : (tn_me s (i / 6) ↔ tn_me s (i % 6)) → wX_roomOutOf_4 post (nI s) fl th up (tn_I co) (tn_I ca) cl st (tn_I en) (tn_I bw) (tn_I pr) av tl (tn_I nd) (tn_I ln) op rk fn (d + 1) (nI (tn_sm (fun c => tn_q (¬ (tn_me s (c / 6) ↔ tn_me s (c % 6))) (o c)) i)) (nI (i + 1)) := by
        intro z
        simp only [tn_sm, tn_q_f (show ¬ ¬ (tn_me s (i / 6) ↔ tn_me s (i % 6)) from fun y => y z), Nat.add_zero] at q
        exact q
      have diff : ¬ (tn_me s (i / 6) ↔ tn_me s (i % 6)) → (vp_in (nI i) 36 ∧ ∀ x2, x2 = nI (tn_sm (fun c => tn_q (¬ (tn_me s (c / 6) ↔ tn_me s (c % 6))) (o c)) i) + op (nI i).toNatClampNeg → ∀ x3, x3 = nI i + 1 → wX_roomOutOf_4 post (nI s) fl th up (tn_I co) (tn_I ca) cl st (tn_I en) (tn_I bw) (tn_I pr) av tl (tn_I nd) (tn_I ln) op rk fn (d + 1) x2 x3) := by
        intro z
        refine ⟨tn_v36 (by omega), nm_r ?_ (nm_r (nI_1 i) q)⟩
        rw [tn_cl op (by omega), ho i (by omega), nI_add]
        simp only [tn_sm, tn_q_t z]
      rw [wX_roomOutOf_4]
      dsimp only
      rw [tn_r6 i31, tn_d6 i31]
      refine br_f (tn_i36 (by omega)) ⟨tn_6, ?_⟩
      refine tn_x_me (fun a => ⟨tn_6, ?_⟩) (fun a => ⟨tn_6, ?_⟩)
      · exact tn_x_me (fun b => br_t rfl (nm_r (nI_1 i) (same ⟨fun _ => b, fun _ => a⟩))) (fun b => br_f (by decide) (diff fun y => b (y.1 a)))
      · exact tn_x_me (fun b => br_f (by decide) (diff fun y => a (y.2 b))) (fun b => br_t rfl (nm_r (nI_1 i) (same ⟨fun y => absurd y a, fun y => absurd y b⟩)))
  exact ⟨37, key 36 0 (by omega)⟩
theorem tn_x_flow {post : Int32 → SX → Prop} {e : Nat} {o : Nat → Nat} (he : e < 36) (ho1 : ∀ c, o c ≤ 100) (ho : ∀ c, c < 36 → op c = nI (o c)) (h : post (nI (tn_mn o e 1000000 64)) (fl, th, up, tn_I co, tn_I ca, cl, st, tn_I en, tn_I bw, tn_I pr, av, tl, tn_I nd, tn_I ln, op, rk, fn)) : ∃ n, wX_flow_35 post (nI e) fl th up (tn_I co) (tn_I ca) cl st (tn_I en) (tn_I bw) (tn_I pr) av tl (tn_I nd) (tn_I ln) op rk fn n 1000000 0 := by
  have e31 : e < 2 ^ 31 := by omega
  have key : ∀ d i, i + d = 64 → wX_flow_35 post (nI e) fl th up (tn_I co) (tn_I ca) cl st (tn_I en) (tn_I bw) (tn_I pr) av tl (tn_I nd) (tn_I ln) op rk fn (d + 1) (nI (tn_mn o e 1000000 i)) (nI i) := by
    intro d
    induction d with
    | zero =>
      intro i hi
      have : i = 64 := by omega
      subst this
      exact br_t (by decide) h
    | succ d ih =>
      intro i hi
      have q := ih (i + 1) (by omega)
      have m1 := tn_mn_le (o := o) (e := e) (z := 1000000) i
      have c1 := tn_cu_le ho1 i
      have stay : ¬ ((tn_me i (e / 6) ∧ ¬ tn_me i (e % 6)) ∧ tn_cu o i < tn_mn o e 1000000 i) → wX_flow_35 post (nI e) fl th up (tn_I co) (tn_I ca) cl st (tn_I en) (tn_I bw) (tn_I pr) av tl (tn_I nd) (tn_I ln) op rk fn (d + 1) (nI (tn_mn o e 1000000 i)) (nI (i + 1)) := by
        intro z
        rw [tn_mn_f z] at q
        exact q
      rw [wX_flow_35, tn_r6 e31, tn_d6 e31]
      refine br_f (nI_ge (b := 64) (by omega) (by decide)) ⟨tn_6, tn_x_me (fun a => br_f (by decide) ⟨tn_6, ?_⟩) (fun a => br_t rfl (nm_r (nI_1 i) (stay fun y => a y.1.1)))⟩
      refine tn_x_me (fun b => br_f (by decide) (nm_r (nI_1 i) (stay fun y => y.1.2 b))) (fun b => br_t rfl (tn_x_out ho ?_))
      refine pk_le (tn_mn o e 1000000 i) (tn_cu o i) (fun l => nm_r (nI_1 i) (stay fun y => by have := y.2; omega)) (fun l => nm_r (nI_1 i) ?_)
      rw [tn_mn_t ⟨a, b⟩ l] at q
      exact q
  exact ⟨65, key 64 0 (by omega)⟩
theorem tn_y_flow {post : Int32 → Prop} {e m : Nat} {o : Nat → Nat} (he : e < 36) (hm : m < 32) (ho1 : ∀ c, o c ≤ 100) (hF : tn_FX th wa co ca en bw pr) (hM : tn_MV wa en ln nd) (ho : ∀ c, c < 36 → o c = tn_or th up cl (nI (m % 8)) ca bw pr ln nd (-1) (m / 8) c) (h : post (nI (tn_mn o e 100000 64))) : ∃ n, wY_flow_24 post (nI e) (nI m) le bl bc th (tn_I co) (tn_I ca) cl up wa (tn_I en) (tn_I bw) (tn_I pr) av (tn_I ln) (tn_I nd) pa be n 100000 0 := by
  obtain ⟨fTH, fco, fca, fen, fbw, fpr, fwa⟩ := hF
  have e31 : e < 2 ^ 31 := by omega
  have m31 : m < 2 ^ 31 := by omega
  have inner : ∀ (J : Int32 → Int32 → Prop) (s z : Nat), z < 2 ^ 20 → s < 64 → (tn_cu o s < z → J (nI (tn_cu o s)) (nI (s + 1))) → (z ≤ tn_cu o s → J (nI z) (nI (s + 1))) → ∀ d i, i + d = 36 → wY_flow_62 post J (nI e) (nI m) (nI z) (nI s) le bl bc th (tn_I co) (tn_I ca) cl up wa (tn_I en) (tn_I bw) (tn_I pr) av (tn_I ln) (tn_I nd) pa be (d + 1) (nI (tn_sm (fun c => tn_q (¬ (tn_me s (c / 6) ↔ tn_me s (c % 6))) (o c)) i)) (nI i) := by
    intro J s z hz hs h1 h2 d
    induction d with
    | zero =>
      intro i hi
      have : i = 36 := by omega
      subst this
      have c1 := tn_cu_le ho1 s
      exact br_t (by decide) (pk_le z (tn_cu o s) (fun l => nm_r (nI_1 s) (h2 l)) (fun l => nm_r (nI_1 s) (h1 l)) rfl rfl (by omega) (by omega))
    | succ d ih =>
      intro i hi
      have q := ih (i + 1) (by omega)
      have i31 : i < 2 ^ 31 := by omega
      have i36 : i < 36 := by omega
      have stay : tn_q (¬ (tn_me s (i / 6) ↔ tn_me s (i % 6))) (o i) = 0 → wY_flow_62 post J (nI e) (nI m) (nI z) (nI s) le bl bc th (tn_I co) (tn_I ca) cl up wa (tn_I en) (tn_I bw) (tn_I pr) av (tn_I ln) (tn_I nd) pa be (d + 1) (nI (tn_sm (fun c => tn_q (¬ (tn_me s (c / 6) ↔ tn_me s (c % 6))) (o c)) i)) (nI (i + 1)) := by
        intro z
        simp only [tn_sm, z, Nat.add_zero] at q
        exact q
      rw [wY_flow_62]
      dsimp only
      rw [tn_r6 i31, tn_d6 i31]
      refine br_f (tn_i36 (by omega)) ⟨tn_6, tn_6, br_c (fun a => br_t rfl (nm_r (nI_1 i) (stay (tn_q_f fun y => y (tn_meE.1 a))))) (fun a => ?_)⟩
      have na : ¬ (tn_me s (i / 6) ↔ tn_me s (i % 6)) := fun y => a (tn_meE.2 y)
      refine br_f (by decide) ⟨tn_8, ?_⟩
      rw [tn_r8 m31, tn_d8 m31]
      have oi := ho i i36
      have l1 := fca i
      have l2 := tn_tk_le (pr := pr) (ln := ln) (nd := nd) fbw (-1) (m / 8) i
      unfold tn_or at oi
      refine tn_y_use i36 (fun op => br_f (by decide) ⟨tn_8, tn_y_room i36 (by omega) fpr hM.1 hM.2.1 ?_⟩) (fun op => br_t rfl (nm_r (nI_1 i) (stay (by rw [tn_q_t na, oi, tn_q_f op]))))
      rw [tn_q_t op] at oi
      by_cases w : ca i ≤ tn_tk bw pr ln nd (-1) (m / 8) i
      · exact br_t ((tn_room0 (by omega) (by omega)).2 w) (nm_r (nI_1 i) (stay (by rw [tn_q_t na, oi]; omega)))
      · refine br_f (fun y => w ((tn_room0 (by omega) (by omega)).1 y)) ⟨tn_8, tn_y_room i36 (by omega) fpr hM.1 hM.2.1 ?_⟩
        refine nm_r ?_ (nm_r (nI_1 i) q)
        rw [pk_sub (by omega), ← oi, nI_add]
        simp only [tn_sm, tn_q_t na]
  have key : ∀ d i, i + d = 64 → wY_flow_24 post (nI e) (nI m) le bl bc th (tn_I co) (tn_I ca) cl up wa (tn_I en) (tn_I bw) (tn_I pr) av (tn_I ln) (tn_I nd) pa be (d + 1) (nI (tn_mn o e 100000 i)) (nI i) := by
    intro d
    induction d with
    | zero =>
      intro i hi
      have : i = 64 := by omega
      subst this
      exact br_t (by decide) h
    | succ d ih =>
      intro i hi
      have q := ih (i + 1) (by omega)
      have m1 := tn_mn_le (o := o) (e := e) (z := 100000) i
      have stay : ¬ ((tn_me i (e / 6) ∧ ¬ tn_me i (e % 6)) ∧ tn_cu o i < tn_mn o e 100000 i) → wY_flow_24 post (nI e) (nI m) le bl bc th (tn_I co) (tn_I ca) cl up wa (tn_I en) (tn_I bw) (tn_I pr) av (tn_I ln) (tn_I nd) pa be (d + 1) (nI (tn_mn o e 100000 i)) (nI (i + 1)) := by
        intro z
        rw [tn_mn_f z] at q
        exact q
      rw [wY_flow_24, tn_r6 e31, tn_d6 e31]
      refine br_f (nI_ge (b := 64) (by omega) (by decide)) ⟨tn_6, br_c (fun a => ⟨tn_6, br_c (fun b => ⟨37, ?_⟩) (fun b => nm_r (nI_1 i) (stay fun y => b (tn_me0.2 y.1.2)))⟩) (fun a => nm_r (nI_1 i) (stay fun y => a y.1.1))⟩
      refine inner _ i (tn_mn o e 100000 i) (by omega) (by omega) (fun l => ?_) (fun l => stay fun y => by have := y.2; omega) 36 0 (by omega)
      rw [tn_mn_t ⟨a, tn_me0.1 b⟩ l] at q
      exact q
  exact ⟨65, key 64 0 (by omega)⟩
end
theorem i_vc_flow {k : Nat} {u : SX} {v : SY} (I : i_Rel k u v) (hk : k + 5 ≤ 2560) (v1 : Int32) (v2 : Int32) : wpX_flow (fun r u' => wpY_flow (fun r' => r' = r ∧ i_Rel (k + 5) u' v) v v1 v2) u v1 v2 := by
  have I0 := I
  obtain ⟨fl, le, bl, bc, th, up, cl, av, st, wa, op, rk, fn, pa, be, co, ca, en, bw, pr, ln, nd, tl, rfl, rfl, hF, hM, hO, hN, hS, hT⟩ := I
  obtain ⟨fTH, fco, fca, fen, fbw, fpr, fwa⟩ := id hF
  rcases Classical.em (tn_ge v1 ∧ tn_in v2 0 31) with g | g
  · obtain ⟨g3, g5⟩ := id g
    obtain ⟨e, he, he2, rfl⟩ := id g3
    obtain ⟨m, -, hm, rfl⟩ := id g5
    have o1 : ∀ c, tn_or th up cl (nI (m % 8)) ca bw pr ln nd (-1) (m / 8) c ≤ 100 := fun c => Nat.le_trans tn_q_le (Nat.le_trans (Nat.sub_le _ _) (fca c))
    unfold wpX_flow
    dsimp only
    rw [tn_r8 (show m < 2 ^ 31 by omega), tn_d8 (show m < 2 ^ 31 by omega)]
    refine tn_x_ge (fun _ => br_f (by decide) (tn_x_tm (fun _ => br_f (by decide) ⟨tn_8, tn_8, ?_⟩) (fun z => absurd g5 z))) (fun z => absurd g3 z)
    refine tn_x_rooms (by omega) fpr fca fbw hT fun op' ho => ?_
    refine tn_x_flow he o1 ho ?_
    unfold wpY_flow
    refine tn_y_ge (fun _ => br_t rfl (tn_y_tm (fun _ => br_t rfl ?_) (fun z => absurd g5 z))) (fun z => absurd g3 z)
    refine tn_y_flow he (by omega) o1 hF hM (fun c _ => rfl) ?_
    exact ⟨by rw [tn_mn_64 o1 he he2], _, _, _, _, _, _, _, _, _, _, _, _, _, _, _, _, _, _, _, _, _, _, _, rfl, rfl, hF, hM, hO, hN, hS, hT⟩
  · have YB : wpY_flow (fun r' => r' = -1 ∧ i_Rel (k + 5) (fl, th, up, tn_I co, tn_I ca, cl, st, tn_I en, tn_I bw, tn_I pr, av, tl, tn_I nd, tn_I ln, op, rk, fn) (le, bl, bc, th, tn_I co, tn_I ca, cl, up, wa, tn_I en, tn_I bw, tn_I pr, av, tn_I ln, tn_I nd, pa, be)) (le, bl, bc, th, tn_I co, tn_I ca, cl, up, wa, tn_I en, tn_I bw, tn_I pr, av, tn_I ln, tn_I nd, pa, be) v1 v2 := by
      unfold wpY_flow
      dsimp only
      exact tn_y_ge (fun g3 => br_t rfl (tn_y_tm (fun g5 => absurd ⟨g3, g5⟩ g) (fun _ => br_f (by decide) ⟨rfl, I0⟩))) (fun _ => br_f (by decide) ⟨rfl, I0⟩)
    unfold wpX_flow
    dsimp only
    exact tn_x_ge (fun g3 => br_f (by decide) (tn_x_tm (fun g5 => absurd ⟨g3, g5⟩ g) (fun _ => br_t rfl YB))) (fun _ => br_t rfl YB)
