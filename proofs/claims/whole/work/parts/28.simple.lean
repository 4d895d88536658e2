/-! the simple cases -/
section QSimple
theorem rng_cases (x : Int32) {lo hi : Nat} (h1 : hi < 2 ^ 31) (h2 : lo ≤ hi) : (∃ a, lo ≤ a ∧ a ≤ hi ∧ x = nI a) ∨ (x < nI lo ∨ nI hi < x) := by
  rcases sl_cases x with h | ⟨a, ha, rfl⟩
  · refine Or.inr (Or.inl ?_)
    rw [fa_lt] at h ⊢
    rw [nI_toInt (by omega)]
    have h0 : (0 : Int32).toInt = 0 := by decide
    omega
  · by_cases hlo : lo ≤ a
    · by_cases hhi : a ≤ hi
      · exact Or.inl ⟨a, hlo, hhi, rfl⟩
      · exact Or.inr (Or.inr (by rw [nI_ltI h1 ha]; omega))
    · exact Or.inr (Or.inl (by rw [nI_ltI ha (by omega)]; omega))
theorem in_no {x : Int32} {lo hi : Nat} (h : x < nI lo ∨ nI hi < x) {post : Int32 → Prop} (hp : post 0) : P_X10_in x (nI lo) (nI hi) post := by
  unfold P_X10_in
  by_cases h1 : x < nI lo
  · exact br_t h1 hp
  · exact br_f h1 (br_t (h.resolve_left h1) hp)
theorem in_yes {a lo hi : Nat} (h1 : lo ≤ a) (h2 : a ≤ hi) (hb : hi < 2 ^ 31) {post : Int32 → Prop} (hp : post 1) : P_X10_in (nI a) (nI lo) (nI hi) post := by
  unfold P_X10_in
  exact br_f (by rw [nI_ltI (by omega) (by omega)]; omega) (br_f (by rw [nI_ltI (by omega) (by omega)]; omega) hp)
theorem ch_ex (x : Int32) : ∃ c, c < 65536 ∧ (x.toUInt32 % 65536).toInt32 = nI c := by
  refine ⟨x.toUInt32.toNat % 65536, Nat.mod_lt _ (by omega), ?_⟩
  have : x.toUInt32 % 65536 = UInt32.ofNat (x.toUInt32.toNat % 65536) := by
    apply UInt32.toNat_inj.mp
    rw [UInt32.toNat_mod, UInt32.toNat_ofNat']
    have h2 : (65536 : UInt32).toNat = 65536 := rfl
    rw [h2, Nat.mod_eq_of_lt (a := x.toUInt32.toNat % 65536)]
    exact Nat.lt_trans (Nat.mod_lt _ (by omega)) (by decide)
  rw [this, UInt32.toInt32_ofNat']; rfl
theorem ch_nar {c : Nat} (h : c < 65536) : narrow .char (.int (nI c)) = .int (nI c) := by
  show Value.int _ = _
  rw [fb_char h]
theorem ieq_1 : (1 : Int32) = 0 ↔ False := by decide
/-- positions -/
theorem cs_positions {L : Nat} {xs : Nat → Int32} {rc : Dz → Int32 → Prop} {σ : Dz} {y5 : Int32} (hI : Inv σ) (hr : ∀ σ', Inv σ' → rc σ' (y5 + 4)) : B_L_law_244 L xs rc σ y5 := by
  unfold B_L_law_244
  obtain ⟨A, o, c, m⟩ := hI
  show (gz_i σ 0 11 = gz_i σ 43 1 → _) ∧ _
  rw [c.n, m.n]
  refine br_t rfl (hr _ ⟨A, o, c.byM (((eo_r 43 66 σ).si (by omega) (by omega) _ _)), m.thr _⟩)
/-- what is thrown on both sides, and nothing has changed -/
theorem bad_i {A : Abs} {σ : Dz} (o : okA A) (c : CI A σ) (m : MI A σ) {k b y : Int32} (hk : k ≠ 0) {rc : Dz → Int32 → Prop} (hr : ∀ σ', Inv σ' → rc σ' y) : P_X10_thrown (sz_i σ 43 0 k) (fun (r214 : Int32) => ((r214 = k → ((¬ k = 0 → rc (sz_i σ 43 0 k) y) ∧ (k = 0 → (((lg_cmp (gz_l (sz_i σ 43 0 k) 66 ((0 : Int32)).toNatClampNeg) ((b).toInt64)) = 0 → rc (sz_i σ 43 0 k) y) ∧ (¬ (lg_cmp (gz_l (sz_i σ 43 0 k) 66 ((0 : Int32)).toNatClampNeg) ((b).toInt64)) = 0 → False))))) ∧ (¬ r214 = k → False))) :=
  tl_i (gi_same _ _ _ _) (fun h => absurd h hk) (hr _ ⟨A, o, c.byM ((eo_r 43 66 σ).si (by omega) (by omega) _ _), m.thr _⟩)
/-- errorPosition -/
theorem cs_error {L : Nat} {xs : Nat → Int32} {rc : Dz → Int32 → Prop} {σ : Dz} {y5 : Int32} (hI : Inv σ) (hr : ∀ σ', Inv σ' → rc σ' (y5 + 4)) : B_L_law_427 L xs rc σ y5 := by
  unfold B_L_law_427 P_L_errorPosition P_X9_errorPosition P_X10_errorPosition
  obtain ⟨A, o, c, m⟩ := hI
  rw [c.er]
  by_cases he : A.er = -1
  · refine bn_t he ⟨rfl, ?_⟩
    show (¬ gz_i σ 43 9 = -1 → _) ∧ _
    rw [m.er]
    exact bn_t he (bad_i o c m (by decide) hr)
  · refine bn_f he ?_
    show (¬ gz_i (sz_l σ 66 ((0 : Int32)).toNatClampNeg A.er.toInt64) 43 9 = -1 → _) ∧ _
    rw [show gz_i (sz_l σ 66 ((0 : Int32)).toNatClampNeg A.er.toInt64) 43 9 = A.er from m.er]
    refine bn_f he (tl_i (gi_same _ _ _ _) (fun _ => ?_) (hr _ ⟨A, o, (c.sl _ _).byM ((eo_r 43 66 _).si (by omega) (by omega) _ _), (m.sl _ _).thr _⟩))
    exact gl_same _ _ _ _
/-- a reader has answered r on both sides -/
theorem good_i {A : Abs} {σ : Dz} (o : okA A) (c : CI A σ) (m : MI A σ) {b y : Int32} {rc : Dz → Int32 → Prop} (hr : ∀ σ', Inv σ' → rc σ' y) : P_X10_thrown (sz_i (sz_l σ 66 ((0 : Int32)).toNatClampNeg b.toInt64) 43 0 0) (fun (r214 : Int32) => ((r214 = 0 → ((¬ (0 : Int32) = 0 → rc (sz_i (sz_l σ 66 ((0 : Int32)).toNatClampNeg b.toInt64) 43 0 0) y) ∧ ((0 : Int32) = 0 → (((lg_cmp (gz_l (sz_i (sz_l σ 66 ((0 : Int32)).toNatClampNeg b.toInt64) 43 0 0) 66 ((0 : Int32)).toNatClampNeg) ((b).toInt64)) = 0 → rc (sz_i (sz_l σ 66 ((0 : Int32)).toNatClampNeg b.toInt64) 43 0 0) y) ∧ (¬ (lg_cmp (gz_l (sz_i (sz_l σ 66 ((0 : Int32)).toNatClampNeg b.toInt64) 43 0 0) 66 ((0 : Int32)).toNatClampNeg) ((b).toInt64)) = 0 → False))))) ∧ (¬ r214 = 0 → False))) :=
  tl_i (gi_same _ _ _ _) (fun _ => gl_same _ _ _ _) (hr _ ⟨A, o, (c.sl _ _).byM ((eo_r 43 66 _).si (by omega) (by omega) _ _), (m.sl _ _).thr _⟩)
/-- wordLength -/
theorem cs_wordLength {L : Nat} {xs : Nat → Int32} {rc : Dz → Int32 → Prop} {σ : Dz} {y5 : Int32} (h1 : vp_in (y5 + 1) L) (hI : Inv σ) (hr : ∀ σ', Inv σ' → rc σ' (y5 + 4)) : B_L_law_539 L xs rc σ y5 := by
  unfold B_L_law_539 P_L_wordLength P_X9_wordLength P_X10_wordLength
  refine ⟨h1, ?_⟩
  generalize xs (y5 + 1).toNatClampNeg = x
  obtain ⟨A, o, c, m⟩ := hI
  rcases slots x with ⟨s, hs, rfl⟩ | ⟨hc, hm⟩
  · refine slot_c hs (q_word hs ?_)
    show vp_in _ _ ∧ _
    refine ⟨h1, slot_m hs (br_f (by decide) ⟨vp_in_nI hs (by omega), ?_⟩)⟩
    rw [nI_clamp (by omega), c.S.wl s hs, show gz_i (sz_l σ 66 ((0 : Int32)).toNatClampNeg (nI (A.S.wl s)).toInt64) 47 s = nI (A.S.wl s) from m.S.wl s hs]
    exact good_i o c m hr
  · exact hc _ _ ⟨rfl, h1, hm _ (br_t rfl (bad_i o c m (by decide) hr))⟩
/-- token -/
theorem q_tokenOn {A : Abs} {σ : Dz} (o : okA A) (hp : gz_i σ 17 3 = nI A.S.pl) {p : Nat} (h : p < 7) {post : Int32 → Prop} (hq : post (nI (imgN (ivN A.S.pl) p + 1))) : P_X9_tokenOn σ (nI (p + 1)) post := by
  unfold P_X9_tokenOn P_X4_places
  rw [hp]
  have hk := o.S.at_
  refine q_inverseOf (by have := hk.1; omega) ?_
  rw [show nI (p + 1) - 1 = nI p from pm_s p]
  refine q_imageOf (by have := iv_lt hk; show ivN _ < _; omega) (by omega) ?_
  rw [nI_1]; exact hq
theorem cs_token {L : Nat} {xs : Nat → Int32} {rc : Dz → Int32 → Prop} {σ : Dz} {y5 : Int32} (h1 : vp_in (y5 + 1) L) (hI : Inv σ) (hr : ∀ σ', Inv σ' → rc σ' (y5 + 4)) : B_L_law_1289 L xs rc σ y5 := by
  unfold B_L_law_1289 P_L_token P_X9_token P_X10_token
  refine ⟨h1, ?_⟩
  generalize xs (y5 + 1).toNatClampNeg = x
  obtain ⟨A, o, c, m⟩ := hI
  have h7 := o.n2
  rcases places_ x o with ⟨p, hp, rfl⟩ | hb
  · refine pos_c o c hp (q_tokenOn o c.S.pl (by omega) ⟨h1, pos_m o (m.sl _ _) hp (br_f (by decide) ⟨vp_in_nI (by omega) (by omega), ?_⟩)⟩)
    rw [nI_clamp (by omega), show gz_i (sz_l σ 66 ((0 : Int32)).toNatClampNeg (nI (imgN (ivN A.S.pl) p + 1)).toInt64) 44 (p + 1) = nI (imgN (ivN A.S.pl) p + 1) from m.S.to p hp]
    exact good_i o c m hr
  · exact (hb σ).1 c _ _ ⟨rfl, h1, (hb σ).2 m _ (br_t rfl (bad_i o c m (by decide) hr))⟩
/-- letter -/
theorem cs_letter {L : Nat} {xs : Nat → Int32} {rc : Dz → Int32 → Prop} {σ : Dz} {y5 : Int32} (h1 : vp_in (y5 + 1) L) (h2 : vp_in (y5 + 2) L) (hI : Inv σ) (hr : ∀ σ', Inv σ' → rc σ' (y5 + 4)) : B_L_law_595 L xs rc σ y5 := by
  unfold B_L_law_595 P_L_letter P_X9_letter P_X10_letter
  refine ⟨h1, h2, ?_⟩
  generalize xs (y5 + 1).toNatClampNeg = x
  generalize xs (y5 + 2).toNatClampNeg = z
  obtain ⟨A, o, c, m⟩ := hI
  rcases slots x with ⟨s, hs, rfl⟩ | ⟨hc, hm⟩
  · refine slot_c hs (q_word hs ?_)
    have hl := o.S.le s hs
    have hw := c.S.word o.S hs
    have bad : (z < 0 ∨ nI (A.S.wl s) ≤ z) → vp_in (y5 + 1) L ∧ (vp_in (y5 + 2) L ∧ P_X10_isSlot (nI s) (fun (r1 : Int32) => ((r1 = 0 → (P_X10_fails σ (1 : Int32) (fun (r25 : Int32) (τ25 : Dz) => P_X10_thrown τ25 (fun (r214 : Int32) => ((r214 = 1 → ((¬ (1 : Int32) = 0 → rc τ25 (y5 + 4)) ∧ ((1 : Int32) = 0 → (((lg_cmp (gz_l τ25 66 ((0 : Int32)).toNatClampNeg) ((r25).toInt64)) = 0 → rc τ25 (y5 + 4)) ∧ (¬ (lg_cmp (gz_l τ25 66 ((0 : Int32)).toNatClampNeg) ((r25).toInt64)) = 0 → False))))) ∧ (¬ r214 = 1 → False)))))) ∧ (¬ r1 = 0 → (vp_in (nI s) 4 ∧ (P_X10_in z (0 : Int32) ((gz_i σ 47 (nI s).toNatClampNeg) - (1 : Int32)) (fun (r17 : Int32) => ((¬ r17 = 0 → (vp_in (((200 : Int32) * (nI s)) + z) 800 ∧ (P_X10_done σ (gz_i σ 48 ((((200 : Int32) * (nI s)) + z)).toNatClampNeg) (fun (r42 : Int32) (τ42 : Dz) => P_X10_thrown τ42 (fun (r214 : Int32) => ((r214 = 1 → ((¬ (1 : Int32) = 0 → rc τ42 (y5 + 4)) ∧ ((1 : Int32) = 0 → (((lg_cmp (gz_l τ42 66 ((0 : Int32)).toNatClampNeg) ((r42).toInt64)) = 0 → rc τ42 (y5 + 4)) ∧ (¬ (lg_cmp (gz_l τ42 66 ((0 : Int32)).toNatClampNeg) ((r42).toInt64)) = 0 → False))))) ∧ (¬ r214 = 1 → False))))))) ∧ (r17 = 0 → (P_X10_fails σ (1 : Int32) (fun (r25 : Int32) (τ25 : Dz) => P_X10_thrown τ25 (fun (r214 : Int32) => ((r214 = 1 → ((¬ (1 : Int32) = 0 → rc τ25 (y5 + 4)) ∧ ((1 : Int32) = 0 → (((lg_cmp (gz_l τ25 66 ((0 : Int32)).toNatClampNeg) ((r25).toInt64)) = 0 → rc τ25 (y5 + 4)) ∧ (¬ (lg_cmp (gz_l τ25 66 ((0 : Int32)).toNatClampNeg) ((r25).toInt64)) = 0 → False))))) ∧ (¬ r214 = 1 → False)))))))))))))) := by
      intro hb
      refine ⟨h1, h2, slot_m hs (br_f (by decide) ⟨vp_in_nI hs (by omega), ?_⟩)⟩
      rw [nI_clamp (by omega), m.S.wl s hs]
      unfold P_X10_in
      by_cases hz : z < 0
      · exact br_t hz (bn_t rfl (bad_i o c m (by decide) hr))
      · refine br_f hz (br_t ?_ (bn_t rfl (bad_i o c m (by decide) hr)))
        have hb := hb.resolve_left hz
        rcases sl_cases z with hz2 | ⟨a, ha, rfl⟩
        · exact absurd hz2 hz
        · rw [nI_leI (by omega) ha] at hb
          rw [pm_lt (by omega) ha]; exact hb
    by_cases hz : z < 0
    · exact br_t hz ⟨rfl, bad (Or.inl hz)⟩
    · refine br_f hz ?_
      show (z < gz_i σ (17 + 3 + 2 * s) 1 → _) ∧ _
      rw [hw.1]
      by_cases hl2 : nI (A.S.wl s) ≤ z
      · refine br_f (fun h => ?_) ⟨rfl, bad (Or.inr hl2)⟩
        rw [fa_lt] at h; rw [fa_le] at hl2; omega
      · rcases sl_cases z with hz2 | ⟨a, ha, rfl⟩
        · exact absurd hz2 hz
        · rw [nI_leI (by omega) ha] at hl2
          refine br_t (by rw [nI_ltI ha (by omega)]; omega) (q_at hw (by omega) ⟨h1, h2, slot_m hs (br_f (by decide) ⟨vp_in_nI hs (by omega), ?_⟩)⟩)
          rw [nI_clamp (by omega), show gz_i (sz_l σ 66 ((0 : Int32)).toNatClampNeg (nI (A.S.wd s a)).toInt64) 47 s = nI (A.S.wl s) from m.S.wl s hs]
          unfold P_X10_in
          refine br_f hz (br_f (by rw [pm_lt (by omega) ha]; omega) (bn_f (by decide) ?_))
          rw [show (200 : Int32) * nI s + nI a = nI (200 * s + a) by rw [show (200 : Int32) = nI 200 from rfl, pk_mul, nI_add], nI_clamp (by omega), show gz_i (sz_l σ 66 ((0 : Int32)).toNatClampNeg (nI (A.S.wd s a)).toInt64) 48 (200 * s + a) = nI (A.S.wd s a) from m.S.wd s hs a (by omega)]
          exact ⟨vp_in_nI (by omega) (by omega), good_i o c m hr⟩
  · exact hc _ _ ⟨rfl, h1, h2, hm _ (br_t rfl (bad_i o c m (by decide) hr))⟩
/-- target -/
theorem q_isDefined {k : Nat} {S : Sit} {σ : Dz} (h : CSit k S σ) {m : Nat} (hm : m < 5) {post : Int32 → Prop} (hp : post (if S.df m then 1 else 0)) : P_X4_isDefined σ k (nI m) post := by
  unfold P_X4_isDefined
  obtain ⟨M, h1, h2, h3⟩ := h.df
  rw [h2, q_ushr (by omega) (by omega), q_and1]
  have e := h3 m hm
  rw [Nat.testBit_eq_decide_div_mod_eq] at e
  by_cases hd : M / 2 ^ m % 2 = 1
  · rw [decide_eq_true hd] at e
    rw [← e, if_pos rfl] at hp
    rw [hd]; exact bn_t rfl hp
  · rw [decide_eq_false hd] at e
    rw [← e, if_neg (by decide)] at hp
    rw [show M / 2 ^ m % 2 = 0 by omega]; exact bn_f (by decide) hp
theorem q_effectOfLetter {k : Nat} {S : Sit} {σ : Dz} (h : CSit k S σ) {l : Nat} (hl : l < 10) {post : Int32 → Prop} (hp : post (nI (S.ef l))) : P_X4_effectOfLetter σ k (nI l) post := by
  unfold P_X4_effectOfLetter
  refine br_f (qn_lt (by omega)) (br_f (by simp (disch := omega) only [fa_lit, nI_add, pk_mul, nI_ltI, nI_leI, nI_eq] <;> omega) ⟨vp_in_nI hl (by omega), ?_⟩)
  rw [nI_clamp (by omega), h.ef l hl]; exact hp
theorem cs_target {L : Nat} {xs : Nat → Int32} {rc : Dz → Int32 → Prop} {σ : Dz} {y5 : Int32} (h1 : vp_in (y5 + 1) L) (h2 : vp_in (y5 + 2) L) (hI : Inv σ) (hr : ∀ σ', Inv σ' → rc σ' (y5 + 4)) : B_L_law_471 L xs rc σ y5 := by
  unfold B_L_law_471 P_L_target P_X9_target P_X10_target
  refine ⟨h1, h2, ?_⟩
  generalize xs (y5 + 1).toNatClampNeg = x
  generalize xs (y5 + 2).toNatClampNeg = z
  obtain ⟨A, o, c, m⟩ := hI
  have h7 := o.n2
  rcases rng_cases x (lo := 0) (hi := 4) (by decide) (by decide) with ⟨a, -, ha, rfl⟩ | hx
  · refine br_f (qn_lt (by omega)) (br_t (by simp (disch := omega) only [fa_lit, nI_add, pk_mul, nI_ltI, nI_leI, nI_eq] <;> omega) ?_)
    rcases places_ z o with ⟨p, hp, rfl⟩ | hb
    · refine pos_c o c hp (q_isDefined c.S (by omega) ?_)
      have ed := m.S.df a (by omega)
      cases hd : A.S.df a with
      | false =>
        rw [hd] at ed
        refine bn_t rfl (Or.inr ⟨rfl, h1, h2, in_yes (lo := 0) (hi := 4) (by omega) ha (by decide) (br_f (by decide) (pos_m o m hp (bn_f (by decide) ⟨vp_in_nI (by omega) (by omega), ?_⟩)))⟩)
        rw [nI_clamp (by omega), show gz_i σ 45 a = 0 from ed]
        exact br_t rfl (bad_i o c m (by decide) hr)
      | true =>
        rw [hd] at ed
        refine bn_f (by decide) ?_
        rw [show (2 : Int32) * nI a = nI (2 * a) by rw [show (2 : Int32) = nI 2 from rfl, pk_mul]]
        refine q_effectOfLetter c.S (by omega) ?_
        rw [show nI (p + 1) - 1 = nI p from pm_s p]
        refine q_imageOf (by have := (o.S.pk (2 * a) (by omega)).1; omega) (by omega) ?_
        rw [nI_1]
        refine ⟨h1, h2, in_yes (lo := 0) (hi := 4) (by omega) ha (by decide) (br_f (by decide) (pos_m o (m.sl _ _) hp (bn_f (by decide) ⟨vp_in_nI (by omega) (by omega), ?_⟩)))⟩
        rw [nI_clamp (by omega), show gz_i (sz_l σ 66 ((0 : Int32)).toNatClampNeg (nI (imgN (A.S.ef (2 * a)) p + 1)).toInt64) 45 a = 1 from ed]
        refine br_f (by decide) ?_
        rw [show (16 : Int32) * nI a + nI (p + 1) = nI (8 * (2 * a) + (p + 1)) by rw [show (16 : Int32) = nI 16 from rfl, pk_mul, nI_add]; congr 1; omega, nI_clamp (by omega), show gz_i (sz_l σ 66 ((0 : Int32)).toNatClampNeg (nI (imgN (A.S.ef (2 * a)) p + 1)).toInt64) 46 (8 * (2 * a) + (p + 1)) = nI (imgN (A.S.ef (2 * a)) p + 1) from m.S.ef (2 * a) (by omega) (by rw [show 2 * a / 2 = a by omega]; exact hd) p hp]
        exact ⟨vp_in_nI (by omega) (by omega), good_i o c m hr⟩
    · refine (hb σ).1 c _ _ (Or.inl ⟨rfl, h1, h2, in_yes (lo := 0) (hi := 4) (by omega) ha (by decide) (br_f (by decide) ((hb σ).2 m _ (bn_t rfl (bad_i o c m (by decide) hr))))⟩)
  · have hm : ∀ post : Int32 → Prop, post 0 → P_X10_in x 0 4 post := fun post hp => in_no (lo := 0) (hi := 4) hx hp
    have hc : ∀ (post : Prop) (px : String → Prop), px "java/lang/IndexOutOfBoundsException" → P_X9_checkMove x post px := by
      intro post px hp
      unfold P_X9_checkMove
      by_cases h0 : x < 0
      · exact br_t h0 hp
      · refine br_f h0 (br_f (fun h5 => ?_) hp)
        have h4 := hx.resolve_left h0
        rw [fa_lt] at h4 h5
        have e4 : (nI 4).toInt = 4 := by decide
        have e5 : (5 : Int32).toInt = 5 := by decide
        omega
    exact hc _ _ (Or.inl ⟨rfl, h1, h2, hm _ (br_t rfl (bad_i o c m (by decide) hr))⟩)
end QSimple
