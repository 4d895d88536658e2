/-! isOdd, perform -/
section QPerform
theorem swR_0 {n x a : Nat} (h : isPk n x) (h7 : n ≤ 7) (hn : n ≤ a) (ha : a < 7) : ∀ b, b ≤ a → swR x a b = 0
  | 0, _ => rfl
  | b + 1, hb => by
    rw [swR, swR_0 h h7 hn ha b (by omega), h.2.2.2 a ha hn, if_neg]
    by_cases hb2 : b < n
    · have := h.lt h7 hb2; omega
    · rw [h.2.2.2 b (by omega) (by omega)]; omega
theorem swT_n {n x : Nat} (h : isPk n x) (h7 : n ≤ 7) : ∀ k, n + k ≤ 7 → swT x (n + k) = swT x n
  | 0, _ => rfl
  | k + 1, hk => by
    show swT x (n + k) + swR x (n + k) (n + k) = _
    rw [swR_0 h h7 (by omega) (by omega) _ (Nat.le_refl _), swT_n h h7 k (by omega)]; rfl
theorem swR_le (x a : Nat) : ∀ b, swR x a b ≤ b
  | 0 => Nat.le_refl _
  | b + 1 => by have := swR_le x a b; rw [swR]; split <;> omega
theorem swT_le (x : Nat) : ∀ a, a ≤ 7 → swT x a ≤ 7 * a
  | 0, _ => Nat.le_refl _
  | a + 1, h => by have := swT_le x a (by omega); have := swR_le x a a; rw [swT]; omega
theorem odd_n {n x : Nat} (h : isPk n x) (h7 : n ≤ 7) : swT x n % 2 = invs x 7 % 2 := by
  have e := swT_n h h7 (7 - n) (by omega)
  rw [show n + (7 - n) = 7 by omega] at e
  have := all7_ok odd_all h.seven
  rw [beq_iff_eq] at this
  rw [← e]; exact this
theorem m_isOdd {A : Abs} (o : okA A) {σ : Dz} (m : MI A σ) {s : Nat} (hs : s < 4) {post : Int32 → Dz → Prop} (hq : post (nI (invs (effW A.S s) 7 % 2)) (sz_i σ 43 0 0)) : P_X10_isOdd σ (nI s) post := by
  unfold P_X10_isOdd
  have h7 := o.n2
  have hk := effW_pk o.S hs
  refine slot_m hs (bn_f (by decide) ?_)
  rw [← odd_n hk h7] at hq
  have key : ∀ k a, a + k = A.n → L_X10_isOdd_17 post (k + 1) σ (nI s) (nI (swT (effW A.S s) a)) (nI (a + 1)) := by
    intro k
    induction k with
    | zero =>
      intro a ha
      show B_X10_isOdd_17 _ _ _ _ _ _
      unfold B_X10_isOdd_17 P_X10_so
      rw [m.n]
      have : a = A.n := by omega
      subst this
      have hl := swT_le (effW A.S s) A.n h7
      rw [show (2 : Int32) = nI 2 from rfl, pk_rem (by omega) (by omega) (by decide)]
      refine br_t (by simp (disch := omega) only [fa_lit, nI_add, pk_mul, nI_ltI, nI_leI, nI_eq] <;> omega) ?_
      rcases Nat.mod_two_eq_zero_or_one (swT (effW A.S s) A.n) with h | h
      · rw [h] at hq ⊢
        exact bn_f (by decide) ⟨Or.inl rfl, Or.inl rfl, hq⟩
      · rw [h] at hq ⊢
        exact bn_t rfl ⟨Or.inr rfl, Or.inr rfl, hq⟩
    | succ k ih =>
      intro a ha
      show B_X10_isOdd_17 _ _ _ _ _ _
      unfold B_X10_isOdd_17
      rw [m.n]
      refine br_f (by simp (disch := omega) only [fa_lit, nI_add, pk_mul, nI_ltI, nI_leI, nI_eq] <;> omega) ⟨a + 1, ?_⟩
      have hr := ih (a + 1) (by omega)
      have inner : ∀ q b, b + q = a → L_X10_isOdd_28 post (L_X10_isOdd_17 post (k + 1)) (q + 1) σ (nI s) (nI (swT (effW A.S s) a + swR (effW A.S s) a b)) (nI (a + 1)) (nI (b + 1)) := by
        intro q
        induction q with
        | zero =>
          intro b hb
          show B_X10_isOdd_28 _ _ _ _ _ _ _ _
          unfold B_X10_isOdd_28
          have : b = a := by omega
          subst this
          refine br_t (by simp (disch := omega) only [fa_lit, nI_add, pk_mul, nI_ltI, nI_leI, nI_eq] <;> omega) ?_
          rw [nI_1]; exact hr
        | succ q ih2 =>
          intro b hb
          show B_X10_isOdd_28 _ _ _ _ _ _ _ _
          unfold B_X10_isOdd_28 B_X10_isOdd_56
          refine br_f (by simp (disch := omega) only [fa_lit, nI_add, pk_mul, nI_ltI, nI_leI, nI_eq] <;> omega) (m_ledBy o m hs (by omega) (m_ledBy o m hs (by omega) ?_))
          have l1 := imgN_lt (effW A.S s) a
          have l2 := imgN_lt (effW A.S s) b
          have hi := ih2 (b + 1) (by omega)
          rw [swR] at hi
          by_cases hc : imgN (effW A.S s) a < imgN (effW A.S s) b
          · rw [if_pos hc] at hi
            refine br_f (by simp (disch := omega) only [fa_lit, nI_add, pk_mul, nI_ltI, nI_leI, nI_eq] <;> omega) ?_
            rw [nI_1, nI_1]; exact hi
          · rw [if_neg hc] at hi
            refine br_t (by simp (disch := omega) only [fa_lit, nI_add, pk_mul, nI_ltI, nI_leI, nI_eq] <;> omega) ?_
            rw [nI_1, show ∀ t, nI t + 0 = nI t from fun t => nI_add t 0]; exact hi
      have := inner a 0 (by omega)
      exact this
  exact ⟨A.n + 1, key A.n 0 (by omega)⟩
theorem cs_isOdd {L : Nat} {xs : Nat → Int32} {rc : Dz → Int32 → Prop} {σ : Dz} {y5 : Int32} (h1 : vp_in (y5 + 1) L) (hI : Inv σ) (hr : ∀ σ', Inv σ' → rc σ' (y5 + 4)) : B_L_law_947 L xs rc σ y5 := by
  unfold B_L_law_947 P_L_isOdd P_X9_isOdd
  refine ⟨h1, ?_⟩
  generalize xs (y5 + 1).toNatClampNeg = x
  obtain ⟨A, o, c, m⟩ := hI
  rcases slots x with ⟨s, hs, rfl⟩ | ⟨hc, hm⟩
  · have hk := effW_pk o.S hs
    refine slot_c hs (q_effectOfWord o c hs (q_hasOddParity (by have := hk.1; omega) hk.2.1 ?_))
    have hmod : ∀ τ (post : Int32 → Dz → Prop), MI A τ → post (nI (invs (effW A.S s) 7 % 2)) (sz_i τ 43 0 0) → P_X10_isOdd τ (nI s) post := fun τ post mt hq => m_isOdd o mt hs hq
    rcases Nat.mod_two_eq_zero_or_one (invs (effW A.S s) 7) with h | h
    · rw [h] at hmod ⊢
      refine ⟨Or.inl rfl, br_t rfl ⟨h1, hmod _ _ (m.sl _ _) ?_⟩⟩
      exact tl_b (gi_same _ _ _ _) (fun _ => Or.inl ⟨rfl, gl_same _ _ _ _⟩) (hr _ ⟨A, o, (c.sl _ _).byM ((eo_r 43 66 _).si (by omega) (by omega) _ _), (m.sl _ _).thr _⟩)
    · rw [h] at hmod ⊢
      refine ⟨Or.inr rfl, br_f (by decide) ⟨h1, hmod _ _ (m.sl _ _) ?_⟩⟩
      exact tl_b (gi_same _ _ _ _) (fun _ => Or.inr ⟨by decide, gl_same _ _ _ _⟩) (hr _ ⟨A, o, (c.sl _ _).byM ((eo_r 43 66 _).si (by omega) (by omega) _ _), (m.sl _ _).thr _⟩)
  · exact hc _ _ ⟨rfl, h1, hm _ (bn_t rfl ⟨Or.inl rfl, bad_b o c m (by decide) hr⟩)⟩
/-! counting over a permutation -/
theorem ct_inj {n : Nat} {f : Nat → Nat} (h1 : ∀ i, i < n → f i < n) (h2 : ∀ i j, i < n → j < n → f i = f j → i = j) (P : Nat → Bool) : fb_ct (fun i => P (f i)) n ≤ fb_ct P n := by
  have ex : ∀ k, ∃ i, k < fb_ct (fun i => P (f i)) n → i < n ∧ P (f i) = true ∧ fb_ct (fun i => P (f i)) i = k := by
    intro k
    by_cases hk : k < fb_ct (fun i => P (f i)) n
    · obtain ⟨i, a, b, d⟩ := fb_ct_kth hk
      exact ⟨i, fun _ => ⟨a, b, d⟩⟩
    · exact ⟨0, fun h => absurd h hk⟩
  obtain ⟨sel, hsel⟩ := Classical.axiomOfChoice ex
  refine fb_holes _ _ (fun k => fb_ct P (f (sel k))) (fun k hk => ?_) (fun k j hkj hj e => ?_)
  · obtain ⟨a, b, -⟩ := hsel k hk
    have h3 := fb_ct_mono P (show f (sel k) + 1 ≤ n from h1 _ a)
    rw [fb_ct_succ, if_pos b] at h3
    show fb_ct P (f (sel k)) < _
    omega
  · obtain ⟨a, b, d⟩ := hsel k (by omega)
    obtain ⟨a', b', d'⟩ := hsel j hj
    have e1 := fb_ct_kth_one b b' e
    have e2 := h2 _ _ a a' e1
    rw [e2] at d; omega
theorem ct_pk {x : Nat} (h : isPk 7 x) (P : Nat → Bool) : fb_ct (fun i => P (imgN x i)) 7 = fb_ct P 7 := by
  apply Nat.le_antisymm
  · exact ct_inj h.2.1 h.2.2.1 P
  · have h2 := ct_inj h.iv.2.1 h.iv.2.2.1 (fun i => P (imgN x i))
    rw [fb_ct_cong (p := fun i => P (imgN x (imgN (ivN x) i))) (q := P) (fun k hk => by rw [(iv_all h hk).2.1])] at h2
    exact h2
theorem diff_ct (x y : Nat) : ∀ n, diffN x y n = fb_ct (fun i => !decide (imgN x i = imgN y i)) n
  | 0 => rfl
  | n + 1 => by
    rw [diffN, fb_ct_succ, diff_ct x y n]
    by_cases h : imgN x n = imgN y n
    · rw [if_pos h, decide_eq_true h]; rfl
    · rw [if_neg h, decide_eq_false h]; rfl
theorem diff_iv {x y : Nat} (hx : isPk 7 x) (hy : isPk 7 y) : fb_ct (fun i => !decide (imgN (ivN y) i = imgN (ivN x) i)) 7 = diffN x y 7 := by
  rw [diff_ct, ← ct_pk hy]
  refine fb_ct_cong fun k hk => ?_
  have e : imgN (ivN y) (imgN y k) = imgN (ivN x) (imgN y k) ↔ imgN x k = imgN y k := by
    rw [(iv_all hy hk).1]
    constructor
    · intro h
      have := (iv_all hx (hy.2.1 k hk)).2.1
      rw [← h] at this; exact this
    · intro h
      rw [← h, (iv_all hx hk).1]
  show (!decide (imgN (ivN y) (imgN y k) = imgN (ivN x) (imgN y k))) = _
  rw [decide_eq_decide.mpr e]
theorem ct_part {n x y : Nat} (hx : isPk n x) (hy : isPk n y) : ∀ k, n + k ≤ 7 → fb_ct (fun i => !decide (imgN (ivN y) i = imgN (ivN x) i)) (n + k) = fb_ct (fun i => !decide (imgN (ivN y) i = imgN (ivN x) i)) n
  | 0, _ => rfl
  | k + 1, h => by
    rw [show n + (k + 1) = (n + k) + 1 from rfl, fb_ct_succ, ct_part hx hy k (by omega), decide_eq_true (show imgN (ivN y) (n + k) = imgN (ivN x) (n + k) by rw [hy.iv.2.2.2 _ (by omega) (by omega), hx.iv.2.2.2 _ (by omega) (by omega)])]
    rfl
theorem inv_it {n x : Nat} (h : isPk n x) : ∀ t q, q < 7 → itN (ivN x) (itN x q t) t = q
  | 0, q, _ => rfl
  | t + 1, q, hq => by
    rw [Nat.add_comm t 1, it_add]
    have hl := it_lt h.seven (Nat.le_refl 7) hq t
    rw [Nat.add_comm 1 t]
    show itN (ivN x) (imgN (ivN x) (imgN x (itN x q t))) t = q
    rw [(iv_all h hl).1]
    exact inv_it h t q hq
def apN (w y : Nat) : Nat → Nat
  | 0 => w
  | i + 1 => cmp (apN w y i) y
theorem ap_pk {n w y : Nat} (hw : isPk n w) (hy : isPk n y) : ∀ i, isPk n (apN w y i)
  | 0 => hw
  | i + 1 => (ap_pk hw hy i).cmp hy
theorem ap_img {n w y : Nat} (hw : isPk n w) (hy : isPk n y) {t : Nat} (ht : t < 7) : ∀ i, imgN (apN w y i) t = itN y (imgN w t) i
  | 0 => rfl
  | i + 1 => by
    show imgN (cmp (apN w y i) y) t = _
    rw [img_cmp ht, ap_img hw hy ht i]; rfl
theorem ap_iv {n w y : Nat} (hw : isPk n w) (hy : isPk n y) {p : Nat} (hp : p < 7) (i : Nat) : imgN (ivN (apN w y i)) (itN y p i) = imgN (ivN w) p := by
  refine iv_of (ap_pk hw hy i) (iv_all hw hp).2.2 ?_
  rw [ap_img hw hy (iv_all hw hp).2.2, (iv_all hw hp).2.1]
set_option maxRecDepth 100000 in
theorem neg_rem : ∀ t, t < 101 → ∀ c, c < 8 → 0 < c → (-nI t) - (-nI t) / nI c * nI c = -nI (t % c) := by decide +kernel
/-- steps of the model against those of the class -/
theorem step_neg {n x p : Nat} (h : isPk n x) (hp : p < 7) (t : Nat) : itN (ivN x) p t = itN x p ((cycL x p - t % cycL x p) % cycL x p) := by
  have hc := cyc_all h.seven hp
  have hl := Nat.mod_lt t hc.1
  have e : itN x (itN x p ((cycL x p - t % cycL x p) % cycL x p)) t = p := by
    rw [← it_add, it_mod hc.2.2.1]
    have : ((cycL x p - t % cycL x p) % cycL x p + t) % cycL x p = 0 := by
      rw [Nat.mod_add_mod]
      have : cycL x p - t % cycL x p + t = cycL x p * (t / cycL x p + 1) := by
        have := Nat.div_add_mod t (cycL x p)
        rw [Nat.mul_add, Nat.mul_one]; omega
      rw [this]; exact Nat.mul_mod_right _ _
    rw [this]; rfl
  have hq := it_lt h.seven (Nat.le_refl 7) hp ((cycL x p - t % cycL x p) % cycL x p)
  have := inv_it h t _ hq
  rw [e] at this; exact this
end QPerform
