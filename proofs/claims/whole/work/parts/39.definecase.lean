/-! the case define -/
section QDefineCase
theorem cr_le {n L : Nat} {t : Nat → Nat} : ∀ k E U st e, cr n L t k E U st = .inl e → e ≤ L
  | 0, E, U, none, e, h => by rw [cr] at h; cases h
  | 0, E, U, some _, e, h => by rw [cr] at h; cases h; exact Nat.le_refl _
  | k + 1, E, U, none, e, h => by
    rw [cr] at h
    split at h
    · exact cr_le k _ _ _ e h
    · cases h; omega
  | k + 1, E, U, some (c, f, l), e, h => by
    rw [cr] at h
    split at h
    · split at h
      · cases h; omega
      · exact cr_le k _ _ _ e h
    · split at h
      · exact cr_le k _ _ _ e h
      · cases h; omega
def defS (S : Sit) (m F : Nat) : Sit := (fun q => if q = m then true else S.df q, fun l => if l = 2 * m then F else if l = 2 * m + 1 then ivN F else S.ef l, S.wl, S.wd, S.pl)
theorem defS_ok {n : Nat} {S : Sit} (o : okSit n S) {m F : Nat} (hF : isPk n F) : okSit n (defS S m F) := by
  have hdf : ∀ q, (defS S m F).df q = if q = m then true else S.df q := fun _ => rfl
  have hef : ∀ l, (defS S m F).ef l = if l = 2 * m then F else if l = 2 * m + 1 then ivN F else S.ef l := fun _ => rfl
  refine ⟨fun l hl => ?_, fun l hl hd => ?_, fun q hq => ?_, o.le, fun s hs i hi => ⟨(o.ok s hs i hi).1, ?_⟩, o.at_⟩
  · rw [hef]
    split
    · exact hF
    · split
      · exact hF.iv
      · exact o.pk l hl
  · rw [hdf] at hd
    by_cases h : l / 2 = m
    · rw [if_pos h] at hd; cases hd
    · rw [if_neg h] at hd
      rw [hef, if_neg (by omega), if_neg (by omega)]; exact o.un l hl hd
  · rw [hef, hef]
    by_cases h : q = m
    · rw [if_neg (by omega), if_pos (by omega), if_pos (by omega)]
    · rw [if_neg (by omega), if_neg (by omega), if_neg (by omega), if_neg (by omega)]; exact o.iv q hq
  · rw [hdf]
    split
    · rfl
    · exact (o.ok s hs i hi).2
/-- text away, error set or not, situation set -/
def defA (A : Abs) (S : Sit) (er : Int32) : Abs := (A.n, S, (0, A.tx), er, A.sv, A.fl, A.db)
theorem defA_ok {A : Abs} (o : okA A) {S : Sit} (hS : okSit A.n S) {er : Int32} (he : er = -1 ∨ ∃ e, e ≤ 40 ∧ er = nI e) : okA (defA A S er) := ⟨o.n1, o.n2, hS, Nat.zero_le _, fun i hi => absurd hi (Nat.not_lt_zero i), he, o.sv, o.fl, o.db⟩
/-- the class: cells 0 12, 0 14, 1 1 and those of eqO 3 12 and the draft have changed -/
theorem CI.err {A : Abs} {σ σ1 : Dz} (c : CI A σ) (e1 : eqO 3 12 σ σ1) (er : Int32) : CI (defA A A.S er) (sz_i (sz_i σ1 1 1 0) 0 12 er) := by
  have row : ∀ k j, k ≠ 0 → k ≠ 1 → (k < 3 ∨ 12 ≤ k) → gz_i (sz_i (sz_i σ1 1 1 0) 0 12 er) k j = gz_i σ k j := fun k j h h2 h3 => by rw [gi_cell h, gi_cell h2, e1.i h3]
  have fld : ∀ j, j ≠ 12 → gz_i (sz_i (sz_i σ1 1 1 0) 0 12 er) 0 j = gz_i σ 0 j := fun j h => by rw [gi_pl h, gi_cell (by omega), e1.i (by omega)]
  refine ⟨by rw [fld _ (by omega)]; exact c.n, gi_same _ _ _ _, by rw [fld _ (by omega)]; exact c.hs, c.S.keep fun k _ _ j => row k j (by omega) (by omega) (by omega), fun s h => (c.sv s h).keep fun k _ _ j => row k j (by omega) (by omega) (by omega), by rw [gi_cell (by omega), gi_same]; rfl, fun i hi => absurd hi (Nat.not_lt_zero i), fun j hj => ?_, fun j hj => ?_, ?_⟩
  · have : gz_f (sz_i (sz_i σ1 1 1 0) 0 12 er) 41 j = gz_f σ1 41 j := rfl
    rw [this, e1.f (by omega)]; exact c.fl j hj
  · have : gz_d (sz_i (sz_i σ1 1 1 0) 0 12 er) 42 j = gz_d σ1 42 j := rfl
    rw [this, e1.d (by omega)]; exact c.db j hj
  · rw [fld _ (by omega)]
    exact c.tb.imp (fun t => ⟨t.1, by rw [row _ _ (by omega) (by omega) (by omega)]; exact t.2⟩) fun t => ⟨t.1, t.2.keep fun k _ _ j => row k j (by omega) (by omega) (by omega)⟩
/-- the model: a text is away, the error is set -/
theorem MI.err {A : Abs} {σ σ1 : Dz} (m : MI A σ) (e1 : eqS 57 61 σ σ1) (er : Int32) (v : Int32) : MI (defA A A.S er) (sz_i (sz_i (sz_i σ1 43 8 0) 43 9 er) 43 0 v) := by
  have m1 := m.made e1
  have row : ∀ k j, k ≠ 43 → gz_i (sz_i (sz_i (sz_i σ1 43 8 0) 43 9 er) 43 0 v) k j = gz_i σ1 k j := fun k j h => by rw [gi_cell h, gi_cell h, gi_cell h]
  have fld : ∀ j, j ≠ 0 → j ≠ 8 → j ≠ 9 → gz_i (sz_i (sz_i (sz_i σ1 43 8 0) 43 9 er) 43 0 v) 43 j = gz_i σ1 43 j := fun j h h2 h3 => by rw [gi_pl h, gi_pl h3, gi_pl h2]
  refine ⟨by rw [fld _ (by omega) (by omega) (by omega)]; exact m1.n, by rw [gi_pl (by omega), gi_same]; rfl, by rw [fld _ (by omega) (by omega) (by omega)]; exact m1.hs, m1.S.keep fun k _ _ j => row k j (by omega), fun s h => (m1.sv s h).keep fun k _ _ j => row k j (by omega), by rw [gi_pl (by omega), gi_pl (by omega), gi_same]; rfl, fun i hi => absurd hi (Nat.not_lt_zero i), m1.fl, m1.db, ?_⟩
  rw [fld _ (by omega) (by omega) (by omega)]
  exact m1.tb.imp id fun t => ⟨t.1, t.2.keep (fld _ (by omega) (by omega) (by omega)) (fld _ (by omega) (by omega) (by omega)) (fun j => row _ j (by omega)) (fun j => row _ j (by omega))⟩
theorem moves_ (x : Int32) : (∃ a, a < 5 ∧ x = nI a) ∨ (∀ (post : Prop) (px : String → Prop), px "java/lang/IndexOutOfBoundsException" → P_X9_checkMove x post px) ∧ (∀ post : Int32 → Prop, post 0 → P_X10_in x 0 4 post) := by
  rcases rng_cases x (lo := 0) (hi := 4) (by decide) (by decide) with ⟨a, -, ha, rfl⟩ | hx
  · exact Or.inl ⟨a, by omega, rfl⟩
  · refine Or.inr ⟨?_, fun post hp => in_no (lo := 0) (hi := 4) hx hp⟩
    intro post px hp
    unfold P_X9_checkMove
    by_cases h0 : x < 0
    · exact br_t h0 hp
    · refine br_f h0 (br_f (fun h5 => ?_) hp)
      have h4 := hx.resolve_left h0
      rw [fa_lt] at h4 h5
      have e4 : (nI 4).toInt = 4 := by decide
      have e5 : (5 : Int32).toInt = 5 := by decide
      omega
theorem c_defineMove {A : Abs} (o : okA A) {σ : Dz} (c : CSit 17 A.S σ) {a F : Nat} (ha : a < 5) (hF : isPk A.n F) {post : Dz → Prop} (hp : ∀ σ', eqO 17 19 σ σ' → CSit 17 (defS A.S a F) σ' → post σ') : P_X4_defineMove σ 17 (nI a) (nI F) post := by
  unfold P_X4_defineMove
  have := hF.1
  refine br_f (qn_lt (by omega)) (br_t (by simp (disch := omega) only [fa_lit, nI_add, pk_mul, nI_ltI, nI_leI, nI_eq] <;> omega) ?_)
  rw [show (2 : Int32) * nI a = nI (2 * a) by rw [show (2 : Int32) = nI 2 from rfl, pk_mul], nI_1]
  refine ⟨vp_in_nI (by omega) (by omega), q_inverseOf (by omega) ⟨vp_in_nI (by omega) (by omega), ?_⟩⟩
  rw [nI_clamp (by omega), nI_clamp (by omega), gi_cell (by omega), gi_cell (by omega)]
  obtain ⟨M, m1, m2, m3⟩ := c.df
  rw [m2, q_shl1 (by omega), fa_or]
  refine hp _ ((((eo_r 17 19 σ).si (by omega) (by omega) _ _).si (by omega) (by omega) _ _).si (by omega) (by omega) _ _) ⟨⟨M ||| 2 ^ a, Nat.or_lt_two_pow (n := 5) m1 (Nat.pow_lt_pow_right (by omega) ha), gi_same _ _ _ _, fun q hq => ?_⟩, ?_, fun l hl => ?_, fun s hs => ?_, fun s hs i hi => ?_⟩
  · show _ = if q = a then true else A.S.df q
    rw [fb_bit_set, m3 q hq]
    by_cases e : q = a
    · rw [if_pos e, decide_eq_true e, Bool.or_true]
    · rw [if_neg e, decide_eq_false e, Bool.or_false]
  · rw [gi_pl (by omega), gi_cell (by omega), gi_cell (by omega)]; exact c.pl
  · rw [gi_cell (by omega)]
    show _ = nI (if l = 2 * a then F else if l = 2 * a + 1 then ivN F else A.S.ef l)
    by_cases e1 : l = 2 * a
    · rw [if_pos e1, gi_pl (by omega), e1, gi_same]
    · rw [if_neg e1]
      by_cases e2 : l = 2 * a + 1
      · rw [if_pos e2, e2, gi_same]; rfl
      · rw [if_neg e2, gi_pl e2, gi_pl e1]; exact c.ef l hl
  · rw [gi_cell (by omega), gi_cell (by omega), gi_cell (by omega)]; exact c.wl s hs
  · rw [gi_cell (by omega), gi_cell (by omega), gi_cell (by omega)]; exact c.wd s hs i hi
def toN (F p : Nat) : Nat := if p = 0 then 0 else imgN F (p - 1) + 1
theorem toN_lt {F p : Nat} (h : isPk 7 F) (hp : p < 8) : toN F p < 8 := by
  unfold toN; split
  · omega
  · have := h.2.1 (p - 1) (by omega); omega
theorem toN_inj {F p q : Nat} (h : isPk 7 F) (hp : p < 8) (hq : q < 8) (e : toN F p = toN F q) : p = q := by
  unfold toN at e
  by_cases h1 : p = 0
  · by_cases h2 : q = 0
    · omega
    · rw [if_pos h1, if_neg h2] at e; omega
  · by_cases h2 : q = 0
    · rw [if_neg h1, if_pos h2] at e; omega
    · rw [if_neg h1, if_neg h2] at e
      have := h.2.2.1 (p - 1) (q - 1) (by omega) (by omega) (by omega)
      omega
theorem m_leads {F a : Nat} {σ : Dz} (hF : isPk 7 F) (ha : a < 5) (ht : ∀ p, p < 8 → gz_i σ 57 p = nI (toN F p)) {post : Int32 → Dz → Prop} (hp : ∀ σ', eqO 46 47 σ σ' → (∀ q, q < 8 → gz_i σ' 46 (16 * a + q) = nI (toN F q)) → (∀ q, q < 8 → gz_i σ' 46 (16 * a + 8 + toN F q) = nI q) → (∀ j, (j < 16 * a ∨ 16 * a + 16 ≤ j) → gz_i σ' 46 j = gz_i σ 46 j) → post (nI (diffN F 1754760 7)) (sz_i σ' 43 0 0)) : ∃ n, L_X10_define_60 post n σ (nI a) 0 0 := by
  have key : ∀ k i σ', i + k = 8 → eqO 46 47 σ σ' → (∀ q, q < i → gz_i σ' 46 (16 * a + q) = nI (toN F q)) → (∀ q, q < i → gz_i σ' 46 (16 * a + 8 + toN F q) = nI q) → (∀ j, (j < 16 * a ∨ 16 * a + 16 ≤ j) → gz_i σ' 46 j = gz_i σ 46 j) → L_X10_define_60 post (k + 1) σ' (nI a) (nI (diffN F 1754760 (i - 1))) (nI i) := by
    intro k
    induction k with
    | zero =>
      intro i σ' hi e t1 t2 t3
      show B_X10_define_60 _ _ _ _ _ _
      unfold B_X10_define_60 P_X10_done
      have : i = 8 := by omega
      subst this
      exact br_t (by simp (disch := omega) only [fa_lit, nI_add, pk_mul, nI_ltI, nI_leI, nI_eq] <;> omega) (hp σ' e t1 t2 t3)
    | succ k ih =>
      intro i σ' hi e t1 t2 t3
      show B_X10_define_60 _ _ _ _ _ _
      unfold B_X10_define_60 B_X10_define_126
      have hl := toN_lt hF (show i < 8 by omega)
      have et : gz_i σ' 57 i = nI (toN F i) := by rw [e.i (by omega)]; exact ht i (by omega)
      rw [show (16 : Int32) * nI a = nI (16 * a) by rw [show (16 : Int32) = nI 16 from rfl, pk_mul], show nI (16 * a) + 8 = nI (16 * a + 8) from nI_add _ 8, nI_add, nI_clamp (by omega), nI_clamp (by omega), et]
      rw [show ∀ v, gz_i (sz_i σ' 46 (16 * a + i) v) 57 i = nI (toN F i) from fun v => by rw [gi_cell (by omega)]; exact et, nI_add, nI_clamp (by omega)]
      rw [show ∀ v w j, gz_i (sz_i (sz_i σ' 46 (16 * a + i) v) 46 j w) 57 i = nI (toN F i) from fun v w j => by rw [gi_cell (by omega), gi_cell (by omega)]; exact et, nI_1]
      refine br_f (by simp (disch := omega) only [fa_lit, nI_add, pk_mul, nI_ltI, nI_leI, nI_eq] <;> omega) ⟨vp_in_nI (by omega) (by omega), vp_in_nI (by omega) (by omega), vp_in_nI (by omega) (by omega), vp_in_nI (by omega) (by omega), vp_in_nI (by omega) (by omega), ?_⟩
      have fin : ∀ v, v = diffN F 1754760 (i + 1 - 1) → L_X10_define_60 post (k + 1) (sz_i (sz_i σ' 46 (16 * a + i) (nI (toN F i))) 46 (16 * a + 8 + toN F i) (nI i)) (nI a) (nI v) (nI (i + 1)) := by
        intro v hv
        rw [hv]
        refine ih (i + 1) _ (by omega) ((e.si (by omega) (by omega) _ _).si (by omega) (by omega) _ _) (fun q hq => ?_) (fun q hq => ?_) (fun j hj => ?_)
        · rw [gi_pl (by omega)]
          by_cases eq : q = i
          · rw [eq, gi_same]
          · rw [gi_pl (by omega)]; exact t1 q (by omega)
        · by_cases eq : q = i
          · rw [eq, gi_same]
          · have hlq := toN_lt hF (show q < 8 by omega)
            rw [gi_pl (fun z => eq (toN_inj hF (by omega) (by omega) (by omega))), gi_pl (by omega)]; exact t2 q (by omega)
        · rw [gi_pl (by omega), gi_pl (by omega)]; exact t3 j hj
      have dl := diffN_le F 1754760 (i - 1)
      by_cases h0 : i = 0
      · subst h0
        refine br_t rfl ?_
        rw [show ∀ t, nI t + 0 = nI t from fun t => nI_add t 0]
        exact fin _ rfl
      · have ei : toN F i = imgN F (i - 1) + 1 := if_neg h0
        have ed : diffN F 1754760 (i + 1 - 1) = diffN F 1754760 (i - 1) + if imgN F (i - 1) = i - 1 then 0 else 1 := by
          rw [show i + 1 - 1 = (i - 1) + 1 by omega, diffN, img_id (i - 1) (by omega)]
        by_cases hq : imgN F (i - 1) = i - 1
        · rw [if_pos hq] at ed
          refine br_t (by rw [ei, hq]; congr 1; omega) ?_
          rw [show ∀ t, nI t + 0 = nI t from fun t => nI_add t 0]
          exact fin _ ed.symm
        · rw [if_neg hq] at ed
          refine br_f (by rw [ei]; simp (disch := omega) only [fa_lit, nI_add, pk_mul, nI_ltI, nI_leI, nI_eq]; omega) ?_
          rw [nI_1]
          exact fin _ ed.symm
  exact ⟨9, key 8 0 σ rfl (eo_r _ _ _) (fun q hq => absurd hq (by omega)) (fun q hq => absurd hq (by omega)) (fun _ _ => rfl)⟩
theorem cs_define {L : Nat} {xs : Nat → Int32} {rc : Dz → Int32 → Prop} {σ : Dz} {y5 : Int32} (h1 : vp_in (y5 + 1) L) (hI : Inv σ) (hr : ∀ σ', Inv σ' → rc σ' (y5 + 4)) : B_L_law_315 L xs rc σ y5 := by
  unfold B_L_law_315 P_L_define P_X9_define P_X10_define
  refine ⟨h1, ?_⟩
  generalize xs (y5 + 1).toNatClampNeg = x
  obtain ⟨A, o, c, m⟩ := hI
  have h7 := o.n2
  have hl := o.tl
  rcases moves_ x with ⟨a, ha, rfl⟩ | ⟨hc, hm⟩
  · refine br_f (qn_lt (by omega)) (br_t (by simp (disch := omega) only [fa_lit, nI_add, pk_mul, nI_ltI, nI_leI, nI_eq] <;> omega) ?_)
    rw [c.n]
    refine c_errorIn o c (fun e he σ1 e1 => ?_) (fun F hF σ1 e1 g1 => ?_)
    · have hle := cr_le _ _ _ _ _ he
      unfold P_X5_clear
      refine br_f (fun z => ?_) (Or.inr ⟨rfl, h1, in_yes (lo := 0) (hi := 4) (by omega) (by omega) (by decide) (bn_f (by decide) ?_)⟩)
      · have z : nI e = nI 4294967295 := z
        rw [fa_eq, nI_toInt (by omega)] at z
        have : (nI 4294967295).toInt = -1 := by decide
        omega
      · have e2 : eqO 0 43 σ (sz_i (sz_i σ1 1 1 0) 0 12 (nI e)) := ((e1.mono (by omega) (by omega)).si (by omega) (by omega) _ _).si (by omega) (by omega) _ _
        have c2 := c.err (e1.mono (by omega) (by omega)) (nI e)
        refine m_readsCycles o (m.byC e2) (fun e' he' σ3 e3 a3 => bn_t rfl ?_) (fun F hF => by rw [he] at hF; cases hF)
        rw [he] at he'
        cases he'
        show P_X10_fails _ _ _
        unfold P_X10_fails
        rw [gi_pl (by omega), a3]
        have m4 := (m.byC e2).err (e3.mono (by omega) (by omega)) (nI e) 2
        refine tl_i (gi_same _ _ _ _) (fun z => absurd z (by decide)) (hr _ ⟨defA A A.S (nI e), defA_ok o o.S (Or.inr ⟨e, by omega, rfl⟩), c2.byM ((((e3.eo (by omega) (by omega)).si (by omega) (by omega) _ _).si (by omega) (by omega) _ _).si (by omega) (by omega) _ _), m4⟩)
    · have pF : isPk A.n F := cr_pk h7 _ _ _ none F ⟨isPk_id _, fun p hp _ => img_id p hp⟩ hF
      unfold P_X5_clear
      refine br_t rfl ?_
      show P_X1_effect _ _
      unfold P_X1_effect
      rw [gi_cell (by omega), g1]
      have e2 : eqO 0 4 σ (sz_i σ1 1 1 0) := (e1.mono (by omega) (by omega)).si (by omega) (by omega) _ _
      refine c_defineMove o (c.S.keep fun k _ _ j => e2.i (by omega) j) ha pF fun σ2 e3 s2 => ?_
      have hlt := pF.1
      refine q_differences (x := F) (y := 1754760) (by omega) (by decide) ⟨h1, in_yes (lo := 0) (hi := 4) (by omega) (by omega) (by decide) (bn_f (by decide) ?_)⟩
      have e4 : eqO 0 43 σ (sz_i σ2 0 14 0) := ((eqO.tr (e2.mono (by omega) (by omega)) (e3.mono (by omega) (by omega)))).si (by omega) (by omega) _ _
      have row : ∀ k j, k ≠ 0 → gz_i (sz_i σ2 0 14 0) k j = gz_i σ2 k j := fun k j h => gi_cell h
      have rowo : ∀ k j, k ≠ 0 → k ≠ 1 → (k < 3 ∨ 4 ≤ k) → (k < 17 ∨ 19 ≤ k) → gz_i (sz_i σ2 0 14 0) k j = gz_i σ k j := fun k j h h2 h3 h4 => by rw [gi_cell h, e3.i h4, gi_cell h2, e1.i h3]
      have fld : ∀ j, j ≠ 14 → gz_i (sz_i σ2 0 14 0) 0 j = gz_i σ 0 j := fun j h => by rw [gi_pl h, e3.i (by omega), gi_cell (by omega), e1.i (by omega)]
      have c2 : CI (defA A (defS A.S a F) A.er) (sz_i σ2 0 14 0) := by
        refine ⟨by rw [fld _ (by omega)]; exact c.n, by rw [fld _ (by omega)]; exact c.er, by rw [fld _ (by omega)]; exact c.hs, s2.keep fun k _ _ j => row k j (by omega), fun s h => (c.sv s h).keep fun k _ _ j => rowo k j (by omega) (by omega) (by omega) (by omega), by rw [gi_cell (by omega), e3.i (by omega), gi_same]; rfl, fun i hi => absurd hi (Nat.not_lt_zero i), fun j hj => ?_, fun j hj => ?_, Or.inl ⟨gi_same _ _ _ _, by rw [rowo _ _ (by omega) (by omega) (by omega) (by omega)]; exact c.z0⟩⟩
        · have : gz_f (sz_i σ2 0 14 0) 41 j = gz_f σ2 41 j := rfl
          rw [this, e3.f (by omega), e2.f (by omega)]; exact c.fl j hj
        · have : gz_d (sz_i σ2 0 14 0) 42 j = gz_d σ2 42 j := rfl
          rw [this, e3.d (by omega), e2.d (by omega)]; exact c.db j hj
      have m2 := (m.byC e4).sl ((0 : Int32)).toNatClampNeg (nI (diffN F 1754760 7)).toInt64
      refine m_readsCycles o m2 (fun e' he' => by rw [hF] at he'; cases he') (fun F' hF' σ3 e5 r5 r50 => bn_f (by decide) ⟨vp_in_nI (by omega) (by omega), ?_⟩)
      rw [hF] at hF'
      cases hF'
      rw [nI_clamp (by omega)]
      have m3 := m2.made (e5.mono (by omega) (by omega))
      refine m_leads pF.seven ha (fun p hp => ?_) (fun σ4 e6 l1 l2 l3 => ?_)
      · rw [gi_cell (by omega), gi_cell (by omega), gi_cell (by omega)]
        unfold toN
        split
        · rename_i h; rw [h]; exact r50
        · rename_i h
          have := r5 (p - 1) (by omega)
          rw [show p - 1 + 1 = p by omega] at this; exact this
      · have rw4 : ∀ k j, k ≠ 43 → k ≠ 45 → k ≠ 46 → gz_i (sz_i σ4 43 0 0) k j = gz_i σ3 k j := fun k j a1 a2 a3 => by rw [gi_cell a1, e6.i (by omega), gi_cell a1, gi_cell a2, gi_cell a1]
        have f4 : ∀ j, j ≠ 0 → j ≠ 8 → j ≠ 27 → gz_i (sz_i σ4 43 0 0) 43 j = gz_i σ3 43 j := fun j a1 a2 a3 => by rw [gi_pl a1, e6.i (by omega), gi_pl a3, gi_cell (by omega), gi_pl a2]
        have eo : eqO 43 66 (sz_l (sz_i σ2 0 14 0) 66 ((0 : Int32)).toNatClampNeg (nI (diffN F 1754760 7)).toInt64) (sz_i σ4 43 0 0) := (eqO.tr ((((e5.eo (by omega) (by omega)).si (by omega) (by omega) _ _).si (by omega) (by omega) _ _).si (by omega) (by omega) _ _) (e6.mono (by omega) (by omega))).si (by omega) (by omega) _ _
        refine both_i (defA_ok o (defS_ok o.S pF) o.er) c2 ⟨by rw [f4 _ (by omega) (by omega) (by omega)]; exact m3.n, by rw [f4 _ (by omega) (by omega) (by omega)]; exact m3.er, by rw [f4 _ (by omega) (by omega) (by omega)]; exact m3.hs, ⟨fun p hp => by rw [rw4 _ _ (by omega) (by omega) (by omega)]; exact m3.S.to p hp, fun q hq => ?_, fun l hl hd p hp => ?_, fun s hs => by rw [rw4 _ _ (by omega) (by omega) (by omega)]; exact m3.S.wl s hs, fun s hs i hi => by rw [rw4 _ _ (by omega) (by omega) (by omega)]; exact m3.S.wd s hs i hi⟩, fun s h => (m3.sv s h).keep fun k _ _ j => rw4 k j (by omega) (by omega) (by omega), ?_, fun i hi => absurd hi (Nat.not_lt_zero i), fun j hj => ?_, fun j hj => ?_, Or.inl ?_⟩ eo (gi_same _ _ _ _) hr
        · rw [gi_cell (by omega), e6.i (by omega), gi_cell (by omega)]
          show _ = if (if q = a then true else A.S.df q) = true then (1 : Int32) else 0
          by_cases eq : q = a
          · rw [eq, gi_same, if_pos rfl]; rfl
          · rw [gi_pl eq, gi_cell (by omega), if_neg eq]; exact m3.S.df q hq
        · have hp : p < A.n := hp
          rw [gi_cell (by omega)]
          show _ = nI (imgN (if l = 2 * a then F else if l = 2 * a + 1 then ivN F else A.S.ef l) p + 1)
          by_cases z1 : l = 2 * a
          · rw [if_pos z1]
            have := l1 (p + 1) (by omega)
            rw [show 8 * l + (p + 1) = 16 * a + (p + 1) by omega, this]
            unfold toN
            rw [if_neg (by omega)]; rfl
          · rw [if_neg z1]
            by_cases z2 : l = 2 * a + 1
            · rw [if_pos z2]
              have hip := (iv_all pF (show p < 7 by omega))
              have := l2 (imgN (ivN F) p + 1) (by omega)
              rw [show toN F (imgN (ivN F) p + 1) = p + 1 by
                unfold toN
                rw [if_neg (by omega), show imgN (ivN F) p + 1 - 1 = imgN (ivN F) p by omega, hip.2.1]] at this
              rw [show 8 * l + (p + 1) = 16 * a + 8 + (p + 1) by omega, this]
            · rw [if_neg z2, l3 _ (by omega), gi_cell (by omega), gi_cell (by omega), gi_cell (by omega)]
              have hd : (if l / 2 = a then true else A.S.df (l / 2)) = true := hd
              rw [if_neg (by omega)] at hd
              exact m3.S.ef l hl hd p hp
        · rw [gi_pl (by omega), e6.i (by omega), gi_pl (by omega), gi_cell (by omega), gi_same]; rfl
        · have : gz_f (sz_i σ4 43 0 0) 50 j = gz_f σ4 50 j := rfl
          rw [this, e6.f (by omega)]; exact m3.fl j hj
        · have : gz_d (sz_i σ4 43 0 0) 51 j = gz_d σ4 51 j := rfl
          rw [this, e6.d (by omega)]; exact m3.db j hj
        · rw [gi_pl (by omega), e6.i (by omega), gi_same]
  · exact hc _ _ (Or.inl ⟨rfl, h1, hm _ (bn_t rfl (bad_i o c m (by decide) hr))⟩)
end QDefineCase
