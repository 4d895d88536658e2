/-! perform -/
section QPerformCase
theorem q_performL {σ : Dz} {y w t : Nat} (hy : y < 2097152) (hw : w < 2097152) (ht : t < 1000) {post : Int32 → Dz → Prop} {px : String → Dz → Prop} (hp : post (nI (diffN w (apN w y t) 7)) (sz_i σ 17 3 (nI (apN w y t)))) : ∃ n, L_X9_perform_68 post px n σ (nI y) (nI w) (nI w) (nI t) := by
  have al : ∀ i, apN w y i < 2097152 := fun i => by
    cases i with
    | zero => exact hw
    | succ i => exact cmp_lt _ _
  have key : ∀ k i, i + k = t → L_X9_perform_68 post px (k + 1) σ (nI y) (nI w) (nI (apN w y i)) (nI k) := by
    intro k
    induction k with
    | zero =>
      intro i hi
      show B_X9_perform_68 _ _ _ _ _ _ _ _
      unfold B_X9_perform_68 P_X4_arrange
      have : i = t := by omega
      subst this
      have := al i
      exact br_t (by decide) (q_differences (by omega) (by omega) hp)
    | succ k ih =>
      intro i hi
      show B_X9_perform_68 _ _ _ _ _ _ _ _
      unfold B_X9_perform_68
      have := al i
      refine br_f (by simp (disch := omega) only [fa_lit, nI_add, pk_mul, nI_ltI, nI_leI, nI_eq] <;> omega) (q_then (by omega) (by omega) ?_)
      rw [pm_m, pm_s]
      exact ih (i + 1) (by omega)
  exact ⟨t + 1, key t 0 (by omega)⟩
theorem m_perform {A : Abs} (o : okA A) {σ : Dz} (m : MI A σ) {s y t : Nat} {z : Int32} (hs : s < 4) (hy : isPk A.n y) (hin : ∀ post : Int32 → Prop, post 1 → P_X10_in z (-100) 100 post)
    (hz : ∀ p, p < A.n → ∃ st, st < 8 ∧ ((0 ≤ z - z / nI (cycL (effW A.S s) p) * nI (cycL (effW A.S s) p) ∧ z - z / nI (cycL (effW A.S s) p) * nI (cycL (effW A.S s) p) + 0 = nI st) ∨ (¬ 0 ≤ z - z / nI (cycL (effW A.S s) p) * nI (cycL (effW A.S s) p) ∧ z - z / nI (cycL (effW A.S s) p) * nI (cycL (effW A.S s) p) + nI (cycL (effW A.S s) p) = nI st)) ∧ itN (effW A.S s) p st = itN y p t)
    {post : Int32 → Dz → Prop} (hp : ∀ σ', MI (withS A (setPl A.S (apN A.S.pl y t))) σ' → eqO 43 66 σ σ' → gz_i σ' 43 0 = 0 → post (nI (diffN A.S.pl (apN A.S.pl y t) 7)) σ') : P_X10_perform σ (nI s) z post := by
  unfold P_X10_perform
  have h7 := o.n2
  have hk := effW_pk o.S hs
  have kw := o.S.at_
  have ka := ap_pk kw hy t
  refine slot_m hs (bn_f (by decide) (hin _ (bn_f (by decide) ?_)))
  have inj : ∀ a b, a < 7 → b < 7 → itN y a t = itN y b t → a = b := fun a b ha hb e => by
    have h1 := inv_it hy t a ha
    have h2 := inv_it hy t b hb
    rw [e] at h1; rw [← h1, h2]
  have last : ∀ σ1, eqS 60 61 σ σ1 → (∀ p, p < A.n → gz_i σ1 60 (itN y p t + 1) = gz_i σ 44 (p + 1)) → ∀ k i σ', i + k = A.n → eqS 44 45 σ1 σ' → (∀ p, p < i → gz_i σ' 44 (p + 1) = nI (imgN (ivN (apN A.S.pl y t)) p + 1)) → (∀ p, i ≤ p → gz_i σ' 44 (p + 1) = gz_i σ1 44 (p + 1)) → L_X10_perform_125 post (k + 1) σ' (nI (fb_ct (fun p => !decide (imgN (ivN (apN A.S.pl y t)) p = imgN (ivN A.S.pl) p)) i)) (nI (i + 1)) := by
    intro σ1 e1 t1 k
    have m1 := m.made (e1.mono (by omega) (by omega))
    induction k with
    | zero =>
      intro i σ' hi e t2 t3
      show B_X10_perform_125 _ _ _ _ _
      unfold B_X10_perform_125 P_X10_done
      rw [e.m (by omega), m1.n]
      have : i = A.n := by omega
      subst this
      refine br_t (by simp (disch := omega) only [fa_lit, nI_add, pk_mul, nI_ltI, nI_leI, nI_eq] <;> omega) ?_
      have ec := ct_part kw ka (7 - A.n) (by omega)
      rw [show A.n + (7 - A.n) = 7 by omega, diff_iv kw.seven ka.seven] at ec
      rw [← ec]
      have e5 : eqS 44 45 σ1 (sz_i σ' 43 0 0) := e.s43 (Or.inl rfl) _
      exact hp _ (m1.setPl e5 fun p hp => by rw [gi_cell (by omega)]; exact t2 p hp) (eqO.tr (e1.eo (by omega) (by omega)) (e5.eo (by omega) (by omega))) (gi_same _ _ _ _)
    | succ k ih =>
      intro i σ' hi e t2 t3
      show B_X10_perform_125 _ _ _ _ _
      unfold B_X10_perform_125 B_X10_perform_157
      rw [e.m (by omega), m1.n, nI_clamp (by omega), t3 i (Nat.le_refl _), m1.S.to i (by omega), nI_1]
      have tv : gz_i σ' 60 (i + 1) = nI (imgN (ivN (apN A.S.pl y t)) i + 1) := by
        have hp0 := it_lt hy.iv h7 (show i < A.n by omega) t
        have eq0 : itN y (itN (ivN y) i t) t = i := by
          have := inv_it hy.iv t i (by omega)
          rw [iv_iv hy] at this; exact this
        rw [e.i (by omega)]
        have := t1 _ hp0
        rw [eq0] at this
        rw [this, m.S.to _ hp0]
        have h3 := ap_iv kw hy (p := itN (ivN y) i t) (by omega) t
        rw [eq0] at h3
        rw [h3]
      rw [tv]
      have l1 := (iv_all ka (show i < 7 by omega)).2.2
      have l2 := (iv_all kw (show i < 7 by omega)).2.2
      have fin : ∀ c, nI c = nI (fb_ct (fun p => !decide (imgN (ivN (apN A.S.pl y t)) p = imgN (ivN A.S.pl) p)) (i + 1)) → vp_in (nI (i + 1)) 8 ∧ (vp_in (nI (i + 1)) 8 ∧ L_X10_perform_125 post (k + 1) (sz_i σ' 44 (i + 1) (nI (imgN (ivN (apN A.S.pl y t)) i + 1))) (nI c) (nI (i + 1 + 1))) := by
        intro c hc
        rw [hc]
        refine ⟨vp_in_nI (by omega) (by omega), vp_in_nI (by omega) (by omega), ih (i + 1) _ (by omega) (e.si (by omega) (by omega) (by omega) _ _) (fun p hp => ?_) (fun p hp => ?_)⟩
        · by_cases ep : p = i
          · rw [ep]; exact gi_same _ _ _ _
          · rw [gi_pl (by omega)]; exact t2 p (by omega)
        · rw [gi_pl (by omega)]; exact t3 p (by omega)
      refine br_f (by simp (disch := omega) only [fa_lit, nI_add, pk_mul, nI_ltI, nI_leI, nI_eq] <;> omega) ⟨vp_in_nI (by omega) (by omega), vp_in_nI (by omega) (by omega), ?_⟩
      by_cases ed : imgN (ivN (apN A.S.pl y t)) i = imgN (ivN A.S.pl) i
      · refine br_t (by rw [ed]) ?_
        rw [show ∀ t, nI t + 0 = nI t from fun t => nI_add t 0]
        refine fin _ ?_
        rw [fb_ct_succ, decide_eq_true ed]; rfl
      · refine br_f (by simp (disch := omega) only [fa_lit, nI_add, pk_mul, nI_ltI, nI_leI, nI_eq] <;> omega) ?_
        rw [nI_1]
        refine fin _ ?_
        rw [fb_ct_succ, decide_eq_false ed]; rfl
  have key : ∀ k i σ', i + k = A.n → eqS 60 61 σ σ' → (∀ p, p < i → gz_i σ' 60 (itN y p t + 1) = gz_i σ 44 (p + 1)) → L_X10_perform_35 post (k + 1) σ' (nI s) z 0 (nI (i + 1)) := by
    intro k
    induction k with
    | zero =>
      intro i σ' hi e t1
      show B_X10_perform_35 _ _ _ _ _ _ _
      unfold B_X10_perform_35
      rw [e.m (by omega), m.n]
      have : i = A.n := by omega
      subst this
      refine br_t (by simp (disch := omega) only [fa_lit, nI_add, pk_mul, nI_ltI, nI_leI, nI_eq] <;> omega) ⟨A.n + 1, last σ' e t1 A.n 0 σ' (by omega) (es_r _ _ _) (fun p hp => absurd hp (by omega)) (fun p _ => rfl)⟩
    | succ k ih =>
      intro i σ' hi e t1
      show B_X10_perform_35 _ _ _ _ _ _ _
      unfold B_X10_perform_35
      rw [e.m (by omega), m.n]
      have m1 := m.made (e.mono (by omega) (by omega))
      refine br_f (by simp (disch := omega) only [fa_lit, nI_add, pk_mul, nI_ltI, nI_leI, nI_eq] <;> omega) (m_cycleOf o m1 hs (by omega) ?_)
      have hc := cyc_all hk.seven (show i < 7 by omega)
      have c0 : ¬ nI (cycL (effW A.S s) i) = 0 := (by simp (disch := omega) only [fa_lit, nI_add, pk_mul, nI_ltI, nI_leI, nI_eq] <;> omega)
      obtain ⟨st, hst, hrem, heq⟩ := hz i (by omega)
      have inner : ∃ n, L_X10_perform_80 post (L_X10_perform_35 post (k + 1)) n σ' (nI s) z 0 (nI (i + 1)) (nI st) (nI (i + 1)) 0 := by
        have key2 : ∀ q j, j + q = st → L_X10_perform_80 post (L_X10_perform_35 post (k + 1)) (q + 1) σ' (nI s) z 0 (nI (i + 1)) (nI st) (nI (itN (effW A.S s) i j + 1)) (nI j) := by
          intro q
          induction q with
          | zero =>
            intro j hj
            show B_X10_perform_80 _ _ _ _ _ _ _ _ _ _ _
            unfold B_X10_perform_80
            have : j = st := by omega
            subst this
            have hl := it_lt hy h7 (show i < A.n by omega) t
            rw [heq, nI_clamp (by omega), nI_clamp (by omega), e.i (by omega), nI_1]
            refine br_t (by simp (disch := omega) only [fa_lit, nI_add, pk_mul, nI_ltI, nI_leI, nI_eq] <;> omega) ⟨vp_in_nI (by omega) (by omega), vp_in_nI (by omega) (by omega), ih (i + 1) _ (by omega) (e.si (by omega) (by omega) (by omega) _ _) (fun p hp => ?_)⟩
            by_cases ep : p = i
            · rw [ep]; exact gi_same _ _ _ _
            · rw [gi_pl]
              · exact t1 p (by omega)
              · intro h
                exact ep (inj p i (by omega) (by omega) (by omega))
          | succ q ih2 =>
            intro j hj
            show B_X10_perform_80 _ _ _ _ _ _ _ _ _ _ _
            unfold B_X10_perform_80
            refine br_f (by simp (disch := omega) only [fa_lit, nI_add, pk_mul, nI_ltI, nI_leI, nI_eq] <;> omega) (m_ledBy o m1 hs (it_lt hk h7 (by omega) j) ?_)
            rw [nI_1]
            exact ih2 (j + 1) (by omega)
        exact ⟨st + 1, key2 st 0 (by omega)⟩
      unfold B_X10_perform_70
      refine ⟨c0, c0, ?_⟩
      rcases hrem with ⟨h1, h2⟩ | ⟨h1, h2⟩
      · refine br_t h1 ?_
        rw [h2]; exact inner
      · refine br_f h1 ?_
        rw [h2]; exact inner
  exact ⟨A.n + 1, key A.n 0 σ (by omega) (es_r _ _ _) (fun p hp => absurd hp (by omega))⟩
set_option maxRecDepth 100000 in
theorem neg_add : ∀ r, r < 8 → ∀ c, c < 8 → r ≤ c → -nI r + nI c = nI (c - r) := by decide +kernel
set_option maxRecDepth 100000 in
theorem neg_lt0 : ∀ r, r < 101 → 0 < r → (¬ 0 ≤ -nI r) ∧ ¬ -nI r < -100 ∧ -nI r ≤ 100 ∧ 0 - -nI r = nI r ∧ ¬ 100 < -nI r := by decide +kernel
theorem tm_cases (z : Int32) : (∃ t, t ≤ 100 ∧ z = nI t) ∨ (∃ t, 0 < t ∧ t ≤ 100 ∧ z = -nI t) ∨ (z < -100 ∨ (¬ z < -100 ∧ 100 < z)) := by
  rcases sl_cases z with h | ⟨a, ha, rfl⟩
  · have hr := fb_rng z
    rw [fa_lt] at h
    have e0 : (0 : Int32).toInt = 0 := by decide
    by_cases hl : z < -100
    · exact Or.inr (Or.inr (Or.inl hl))
    · rw [fa_lt] at hl
      have e1 : (-100 : Int32).toInt = -100 := by decide
      refine Or.inr (Or.inl ⟨(-z.toInt).toNat, by omega, by omega, ?_⟩)
      have e2 := nI_toInt (show (-z.toInt).toNat < 2 ^ 31 by omega)
      rw [fa_eq, fb_negI (by omega), e2]; omega
  · by_cases h : a ≤ 100
    · exact Or.inl ⟨a, h, rfl⟩
    · refine Or.inr (Or.inr (Or.inr ⟨?_, ?_⟩))
      · rw [fa_lt, nI_toInt ha]
        have e1 : (-100 : Int32).toInt = -100 := by decide
        omega
      · rw [show (100 : Int32) = nI 100 from rfl, nI_ltI (by decide) ha]; omega
theorem cs_perform {L : Nat} {xs : Nat → Int32} {rc : Dz → Int32 → Prop} {σ : Dz} {y5 : Int32} (h1 : vp_in (y5 + 1) L) (h2 : vp_in (y5 + 2) L) (hI : Inv σ) (hr : ∀ σ', Inv σ' → rc σ' (y5 + 4)) : B_L_law_1153 L xs rc σ y5 := by
  unfold B_L_law_1153 P_L_perform P_X9_perform
  refine ⟨h1, h2, ?_⟩
  generalize xs (y5 + 1).toNatClampNeg = x
  generalize xs (y5 + 2).toNatClampNeg = z
  obtain ⟨A, o, c, m⟩ := hI
  have h7 := o.n2
  rcases slots x with ⟨s, hs, rfl⟩ | ⟨hc, hm⟩
  · refine slot_c hs ?_
    have hk := effW_pk o.S hs
    have kw := o.S.at_
    rcases tm_cases z with ⟨t, ht, rfl⟩ | ⟨t, t0, ht, rfl⟩ | hz
    · refine br_f (by rw [fa_lt, nI_toInt (by omega)]; have e1 : (-100 : Int32).toInt = -100 := (by decide); omega) (br_t (by simp (disch := omega) only [fa_lit, nI_add, pk_mul, nI_ltI, nI_leI, nI_eq] <;> omega) (q_effectOfWord o c hs (br_t (by simp (disch := omega) only [fa_lit, nI_add, pk_mul, nI_ltI, nI_leI, nI_eq] <;> omega) ?_)))
      unfold B_X9_perform_47 P_X4_places
      rw [if_pos (show (0 : Int32) ≤ nI t from (by simp (disch := omega) only [fa_lit, nI_add, pk_mul, nI_ltI, nI_leI, nI_eq] <;> omega)), c.S.pl]
      refine q_performL hk.1 kw.1 (by omega) ⟨h1, h2, ?_⟩
      have e2 : eqO 0 43 σ (sz_i σ 17 3 (nI (apN A.S.pl (effW A.S s) t))) := (eo_r _ _ _).si (by omega) (by omega) _ _
      refine m_perform (t := t) o ((m.byC e2).sl _ _) hs hk (fun post hp => ?_) (fun p hp => ?_) fun σ' m' e' h' => both_i (o.setPl (ap_pk kw hk t)) (c.setPl _) m' e' h' hr
      · unfold P_X10_in
        exact br_f (by rw [fa_lt, nI_toInt (by omega)]; have e1 : (-100 : Int32).toInt = -100 := (by decide); omega) (br_f (by simp (disch := omega) only [fa_lit, nI_add, pk_mul, nI_ltI, nI_leI, nI_eq] <;> omega) hp)
      · have hcy := cyc_all hk.seven (show p < 7 by omega)
        have hml := Nat.mod_lt t hcy.1
        refine ⟨t % cycL (effW A.S s) p, by omega, Or.inl ?_, (it_mod hcy.2.2.1 t).symm⟩
        rw [pk_rem (by omega) (by omega) (by omega)]
        exact ⟨(by simp (disch := omega) only [fa_lit, nI_add, pk_mul, nI_ltI, nI_leI, nI_eq] <;> omega), nI_add _ 0⟩
    · have nl := neg_lt0 t (by omega) t0
      refine br_f nl.2.1 (br_t nl.2.2.1 (q_effectOfWord o c hs (br_f nl.1 (q_inverseOf (by have := hk.1; omega) ?_))))
      unfold B_X9_perform_47 P_X4_places
      rw [if_neg nl.1, nl.2.2.2.1, c.S.pl]
      refine q_performL (y := ivN (effW A.S s)) hk.iv.1 kw.1 (by omega) ⟨h1, h2, ?_⟩
      have e2 : eqO 0 43 σ (sz_i σ 17 3 (nI (apN A.S.pl (ivN (effW A.S s)) t))) := (eo_r _ _ _).si (by omega) (by omega) _ _
      refine m_perform (t := t) o ((m.byC e2).sl _ _) hs hk.iv (fun post hp => br_f nl.2.1 (br_f nl.2.2.2.2 hp)) (fun p hp => ?_) fun σ' m' e' h' => both_i (o.setPl (ap_pk kw hk.iv t)) (c.setPl _) m' e' h' hr
      have hcy := cyc_all hk.seven (show p < 7 by omega)
      have hml := Nat.mod_lt t hcy.1
      have hst := step_neg hk (show p < 7 by omega) t
      rw [neg_rem t (by omega) _ (by omega) (by omega)]
      by_cases h0 : t % cycL (effW A.S s) p = 0
      · refine ⟨0, by omega, Or.inl ?_, ?_⟩
        · rw [h0]; exact ⟨by decide, by decide⟩
        · rw [hst, h0, Nat.sub_zero, Nat.mod_self]
      · refine ⟨cycL (effW A.S s) p - t % cycL (effW A.S s) p, by omega, Or.inr ⟨(neg_lt0 _ (by omega) (by omega)).1, neg_add _ (by omega) _ (by omega) (by omega)⟩, ?_⟩
        rw [hst, Nat.mod_eq_of_lt (a := cycL (effW A.S s) p - t % cycL (effW A.S s) p) (by omega)]
    · have fin : vp_in (y5 + 1) L ∧ (vp_in (y5 + 2) L ∧ P_X10_perform σ (nI s) z (fun (r208 : Int32) (τ208 : Dz) => (P_X10_thrown τ208 (fun (r214 : Int32) => ((r214 = 2 → ((¬ (2 : Int32) = 0 → rc τ208 (y5 + (4))) ∧ ((2 : Int32) = 0 → (((lg_cmp (gz_l τ208 66 ((0 : Int32)).toNatClampNeg) ((r208).toInt64)) = 0 → rc τ208 (y5 + (4))) ∧ (¬ (lg_cmp (gz_l τ208 66 ((0 : Int32)).toNatClampNeg) ((r208).toInt64)) = 0 → False))))) ∧ (¬ r214 = 2 → False)))))) := by
        refine ⟨h1, h2, slot_m hs (bn_f (by decide) ?_)⟩
        unfold P_X10_in
        rcases hz with h | ⟨h, h'⟩
        · exact br_t h (bn_t rfl (bad_i o c m (by decide) hr))
        · exact br_f h (br_t h' (bn_t rfl (bad_i o c m (by decide) hr)))
      rcases hz with h | ⟨h, h'⟩
      · exact br_t h (Or.inr ⟨rfl, fin⟩)
      · refine br_f h (br_f (fun h3 => ?_) (Or.inr ⟨rfl, fin⟩))
        rw [fa_lt] at h'; rw [fa_le] at h3; omega
  · exact hc _ _ (Or.inl ⟨rfl, h1, h2, hm _ (bn_t rfl (bad_i o c m (by decide) hr))⟩)
end QPerformCase
