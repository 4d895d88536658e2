/-! the search: the model, and the case -/
section QSearchM
theorem xor_par : ∀ l, l < 10 → (l % 2 = 0 → l ^^^ 1 = l + 1) ∧ (l % 2 = 1 → l ^^^ 1 = l - 1) := by decide
theorem ef_xor {n : Nat} {S : Sit} (o : okSit n S) {l : Nat} (hl : l < 10) : S.ef (l ^^^ 1) = ivN (S.ef l) := by
  have h := xor_par l hl
  rcases Nat.mod_two_eq_zero_or_one l with e | e
  · have := o.iv (l / 2) (by omega)
    rw [show 2 * (l / 2) = l by omega] at this
    rw [h.1 e, this]
  · have := o.iv (l / 2) (by omega)
    rw [show 2 * (l / 2) + 1 = l by omega] at this
    rw [h.2 e, this, iv_iv (o.pk _ (by omega)), show 2 * (l / 2) = l - 1 by omega]
theorem iv_cmp2 {n a b : Nat} (ha : isPk n a) (hb : isPk n b) : ivN (cmp a b) = cmp (ivN b) (ivN a) := by
  refine q_ext (ha.cmp hb).iv.1 (cmp_lt _ _) fun p hp => ?_
  have h1 := iv_all hb hp
  have h2 := iv_all ha h1.2.2
  rw [img_cmp hp]
  refine iv_of (ha.cmp hb) h2.2.2 ?_
  rw [img_cmp h2.2.2, h2.2.1, h1.2.1]
def okU (df : Nat → Bool) (m u : Nat) : Prop := (m = 1 → okL df u) ∧ (m = 2 → okL df (u / 10) ∧ okL df (u % 10))
theorem sh_ok {df : Nat → Bool} {m u : Nat} (hm : m = 1 ∨ m = 2) (hu : u < rg m) (h : shOK df m u = true) : okU df m u := by
  unfold shOK at h
  rcases hm with rfl | rfl
  · have hu : u < 10 := hu
    refine ⟨fun _ => ⟨hu, ?_⟩, fun z => absurd z (by decide)⟩
    rw [Bool.and_eq_true, show u % 10 = u by omega] at h
    exact h.1
  · have hu : u < 100 := hu
    rw [Bool.and_eq_true, Bool.or_eq_true] at h
    refine ⟨fun z => absurd z (by decide), fun _ => ⟨⟨by omega, h.2.resolve_left (by decide)⟩, ⟨by omega, h.1⟩⟩⟩
theorem m_lead {A : Abs} {σ : Dz} (m : MI A σ) {l p : Nat} (hl : okL A.S.df l) (hp : p < A.n) (h7 : A.n ≤ 7) {post : Int32 → Prop} (hq : post (nI (imgN (A.S.ef l) p + 1))) : vp_in ((8 : Int32) * nI l + nI (p + 1)) 80 ∧ post (gz_i σ 46 ((8 : Int32) * nI l + nI (p + 1)).toNatClampNeg) := by
  have := hl.1
  rw [show (8 : Int32) * nI l + nI (p + 1) = nI (8 * l + (p + 1)) by rw [show (8 : Int32) = nI 8 from rfl, pk_mul, nI_add], nI_clamp (by omega), m.S.ef l hl.1 hl.2 p hp]
  exact ⟨vp_in_nI (by omega) (by omega), hq⟩
theorem m_shortLed {A : Abs} (o : okA A) {σ : Dz} (mi : MI A σ) {m u p : Nat} (hm : m = 1 ∨ m = 2) (hu : u < 100) (ok : okU A.S.df m u) (hp : p < A.n) (b : Bool) {post : Int32 → Prop} (hq : post (nI (imgN (if b then ivN (efS A.S.ef m u) else efS A.S.ef m u) p + 1))) : P_X10_shortLed σ (nI m) (nI u) (if b then 1 else 0) (nI (p + 1)) post := by
  have h7 := o.n2
  unfold P_X10_shortLed
  rcases hm with rfl | rfl
  · have ol := ok.1 rfl
    refine bn_t rfl ?_
    unfold B_X10_shortLed_13
    refine bn_t rfl ?_
    cases b with
    | false => exact br_t rfl (m_lead mi ol hp h7 hq)
    | true =>
      refine br_f (by decide) ?_
      rw [q_xor1]
      refine m_lead mi ol.inv hp h7 ?_
      rw [ef_xor o.S ol.1]; exact hq
  · obtain ⟨o1, o2⟩ := ok.2 rfl
    have k1 := o.S.pk _ o1.1
    have k2 := o.S.pk _ o2.1
    refine bn_f (by decide) ?_
    unfold B_X10_shortLed_13 B_X10_shortLed_70
    rw [show (10 : Int32) = nI 10 from rfl, pk_rem (by omega) (by omega) (by decide), pk_div (by omega) (by omega) (by decide)]
    refine bn_f (by decide) ?_
    cases b with
    | false =>
      refine br_t rfl (m_lead mi o1 hp h7 (post := fun r => ((0 : Int32) = 0 → (vp_in (((8 : Int32) * nI (u % 10)) + r) 80 ∧ post (gz_i σ 46 ((((8 : Int32) * nI (u % 10)) + r)).toNatClampNeg))) ∧ (¬ (0 : Int32) = 0 → (vp_in (((8 : Int32) * (nI (u / 10) ^^^ (1 : Int32))) + r) 80 ∧ post (gz_i σ 46 ((((8 : Int32) * (nI (u / 10) ^^^ (1 : Int32))) + r)).toNatClampNeg)))) ?_)
      refine br_t rfl (m_lead mi o2 (k1.lt h7 hp) h7 ?_)
      have hq : post (nI (imgN (cmp (A.S.ef (u / 10)) (A.S.ef (u % 10))) p + 1)) := hq
      rw [img_cmp (by omega)] at hq; exact hq
    | true =>
      refine br_f (by decide) ?_
      rw [q_xor1, q_xor1]
      refine (m_lead mi o2.inv hp h7 (post := fun r => ((1 : Int32) = 0 → (vp_in (((8 : Int32) * nI (u % 10)) + r) 80 ∧ post (gz_i σ 46 ((((8 : Int32) * nI (u % 10)) + r)).toNatClampNeg))) ∧ (¬ (1 : Int32) = 0 → (vp_in (((8 : Int32) * nI ((u / 10) ^^^ 1)) + r) 80 ∧ post (gz_i σ 46 ((((8 : Int32) * nI ((u / 10) ^^^ 1)) + r)).toNatClampNeg)))) ?_)
      rw [ef_xor o.S o2.1]
      refine br_f (by decide) (m_lead mi o1.inv (k2.iv.lt h7 hp) h7 ?_)
      rw [ef_xor o.S o1.1]
      have hq : post (nI (imgN (ivN (cmp (A.S.ef (u / 10)) (A.S.ef (u % 10)))) p + 1)) := hq
      rw [iv_cmp2 k1 k2, img_cmp (by omega)] at hq; exact hq
theorem m_isShort {A : Abs} {σ : Dz} (mi : MI A σ) {m u : Nat} (hm : m = 1 ∨ m = 2) (hu : u < 100) {post : Int32 → Prop} (hp : post (if shOK A.S.df m u then 1 else 0)) : P_X10_isShort σ (nI m) (nI u) post := by
  unfold P_X10_isShort
  rw [show (10 : Int32) = nI 10 from rfl, pk_rem (by omega) (by omega) (by decide), pk_div (by omega) (by omega) (by decide)]
  refine m_isLetter mi.S (by omega) ?_
  unfold shOK at hp
  cases h1 : A.S.df (u % 10 / 2) with
  | false =>
    rw [h1] at hp
    exact br_t rfl hp
  | true =>
    rw [h1, Bool.true_and] at hp
    refine br_f (by decide) ?_
    rcases hm with rfl | rfl
    · exact br_t rfl hp
    · refine br_f (by decide) (m_isLetter mi.S (by omega) ?_)
      cases h2 : A.S.df (u / 10 / 2) with
      | false => rw [h2] at hp; exact br_t rfl hp
      | true => rw [h2] at hp; exact br_f (by decide) hp
theorem m_movedBy {A : Abs} (o : okA A) {σ : Dz} (mi : MI A σ) {m u k v : Nat} (hm : m = 1 ∨ m = 2) (hk : k = 1 ∨ k = 2) (hu : u < 100) (hv : v < 100) (ou : okU A.S.df m u) (ov : okU A.S.df k v) {post : Int32 → Prop} (hp : post (nI (mvC (efS A.S.ef m u) (efS A.S.ef k v) 7))) : P_X10_movedBy σ (nI m) (nI u) (nI k) (nI v) post := by
  unfold P_X10_movedBy
  have h7 := o.n2
  have kx := efS_pk o.S hm ou
  have ky := efS_pk o.S hk ov
  have en := mvC_n kx ky (7 - A.n) (by omega)
  rw [show A.n + (7 - A.n) = 7 by omega] at en
  rw [en] at hp
  have key : ∀ q i, i + q = A.n → L_X10_movedBy_6 σ post (q + 1) (nI m) (nI u) (nI k) (nI v) (nI (mvC (efS A.S.ef m u) (efS A.S.ef k v) i)) (nI (i + 1)) := by
    intro q
    induction q with
    | zero =>
      intro i hi
      show B_X10_movedBy_6 _ _ _ _ _ _ _ _ _
      unfold B_X10_movedBy_6
      rw [mi.n]
      have : i = A.n := by omega
      subst this
      exact br_t (by simp (disch := omega) only [fa_lit, nI_add, pk_mul, nI_ltI, nI_leI, nI_eq] <;> omega) hp
    | succ q ih =>
      intro i hi
      show B_X10_movedBy_6 _ _ _ _ _ _ _ _ _
      unfold B_X10_movedBy_6 B_X10_movedBy_67
      rw [mi.n]
      have l1 := kx.lt h7 (show i < A.n by omega)
      have l2 := ky.lt h7 l1
      have l3 := kx.iv.lt h7 l2
      have l4 := ky.iv.lt h7 l3
      refine br_f (by simp (disch := omega) only [fa_lit, nI_add, pk_mul, nI_ltI, nI_leI, nI_eq] <;> omega) (m_shortLed o mi hm hu ou (by omega) false (m_shortLed o mi hk hv ov l1 false (m_shortLed o mi hm hu ou l2 true (m_shortLed o mi hk hv ov l3 true ?_))))
      have hn := ih (i + 1) (by omega)
      rw [mvC] at hn
      show (nI (imgN (ivN (efS A.S.ef k v)) (imgN (ivN (efS A.S.ef m u)) (imgN (efS A.S.ef k v) (imgN (efS A.S.ef m u) i))) + 1) = nI (i + 1) → _) ∧ _
      have iff : imgN (ivN (efS A.S.ef k v)) (imgN (ivN (efS A.S.ef m u)) (imgN (efS A.S.ef k v) (imgN (efS A.S.ef m u) i))) = i ↔ imgN (efS A.S.ef k v) (imgN (efS A.S.ef m u) i) = imgN (efS A.S.ef m u) (imgN (efS A.S.ef k v) i) := by
        constructor
        · intro e
          have e1 := (iv_all ky (show imgN (ivN (efS A.S.ef m u)) (imgN (efS A.S.ef k v) (imgN (efS A.S.ef m u) i)) < 7 by omega)).2.1
          rw [e] at e1
          rw [e1, (iv_all kx (show imgN (efS A.S.ef k v) (imgN (efS A.S.ef m u) i) < 7 by omega)).2.1]
        · intro e
          rw [e, (iv_all kx (show imgN (efS A.S.ef k v) i < 7 from ky.2.1 i (by omega))).1, (iv_all ky (show i < 7 by omega)).1]
      by_cases e : imgN (efS A.S.ef k v) (imgN (efS A.S.ef m u) i) = imgN (efS A.S.ef m u) (imgN (efS A.S.ef k v) i)
      · rw [if_pos e] at hn
        refine br_t (by rw [iff.mpr e]) ?_
        rw [show ∀ t, nI t + 0 = nI t from fun t => nI_add t 0, nI_1]; exact hn
      · rw [if_neg e] at hn
        refine br_f (fun z => e (iff.mp ?_)) ?_
        · rw [nI_eq (by omega) (by omega)] at z; omega
        · rw [nI_1, nI_1]; exact hn
  exact ⟨A.n + 1, key A.n 0 (by omega)⟩
theorem m_comesShort {σ : Dz} {m u l : Nat} {d : Nat → Nat} (hm : m = 1 ∨ m = 2) (hu : u < 100) (w : isMd l d false σ) (hl : l ≤ 100) (b : Bool) {post : Dz → Prop} (hp : ∀ σ', eqC σ σ' → isMd (l + m) (catD d l (if b then bwF m u else wdF m u)) false σ' → post σ') : P_X10_comesShort σ (nI m) (nI u) (if b then 1 else 0) post := by
  unfold P_X10_comesShort
  have one : ∀ {l : Nat} {d : Nat → Nat} {σ : Dz}, l ≤ 110 → isMd l d false σ → ∀ v (post : Dz → Prop), (∀ σ', eqC σ σ' → isMd (l + 1) (catD d l (fun _ => v)) false σ' → post σ') → P_X10_comes σ (nI v) post := by
    intro l d σ hl w v post hp
    refine m_comes w v fun σ' e w2 => hp σ' e (w2.cong (by omega) (fun _ _ => rfl) ?_)
    rw [decide_eq_false (by omega)]; rfl
  rcases hm with rfl | rfl
  · refine bn_t rfl ?_
    cases b with
    | false => exact br_t rfl (one (by omega) w u _ hp)
    | true =>
      refine br_f (by decide) ?_
      rw [q_xor1]; exact one (by omega) w _ _ hp
  · refine bn_f (by decide) ?_
    unfold B_X10_comesShort_41
    rw [show (10 : Int32) = nI 10 from rfl, pk_rem (by omega) (by omega) (by decide), pk_div (by omega) (by omega) (by decide), q_xor1, q_xor1]
    have two : ∀ v1 v2 (g : Nat → Nat), g 0 = v1 → g 1 = v2 → (∀ σ', eqC σ σ' → isMd (l + 2) (catD d l g) false σ' → post σ') → P_X10_comes σ (nI v1) (fun τ => P_X10_comes τ (nI v2) post) := by
      intro v1 v2 g e1 e2 hp
      refine one (by omega) w v1 _ fun σ1 c1 w1 => one (by omega) w1 v2 _ fun σ2 c2 w2 => hp σ2 (c1.tr c2) (w2.cong rfl (fun j hj => ?_) rfl)
      by_cases j1 : j < l
      · rw [catD_0 _ _ _ (by omega), catD_0 _ _ _ j1, catD_0 _ _ _ j1]
      · by_cases j2 : j = l
        · subst j2
          rw [catD_0 _ _ _ (by omega), catD_1 _ _ _ (Nat.le_refl _), catD_1 _ _ _ (Nat.le_refl _), Nat.sub_self, e1]
        · rw [catD_1 _ _ _ (by omega), catD_1 _ _ _ (by omega), show j - l = 1 by omega, e2]
    cases b with
    | false =>
      refine br_t rfl ?_
      have := two (u / 10) (u % 10) (wdF 2 u) rfl rfl hp
      unfold P_X10_comes at this ⊢
      exact ⟨fun z => ⟨(this.1 z).1, br_t rfl (this.1 z).2⟩, fun z => br_t rfl (this.2 z)⟩
    | true =>
      refine br_f (by decide) ?_
      have := two (u % 10 ^^^ 1) (u / 10 ^^^ 1) (bwF 2 u) rfl rfl hp
      unfold P_X10_comes at this ⊢
      exact ⟨fun z => ⟨(this.1 z).1, br_f (by decide) (this.1 z).2⟩, fun z => br_f (by decide) (this.2 z)⟩
end QSearchM
