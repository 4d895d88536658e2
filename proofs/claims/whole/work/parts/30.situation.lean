/-! reset, append, exchange, snapshot, restore -/
section QSituation
def clrS : Sit := (fun _ => false, fun _ => 1754760, fun _ => 0, fun _ _ => 0, 1754760)
theorem id_iv : ivN 1754760 = 1754760 := by decide
theorem clr_ok (n : Nat) : okSit n clrS := ⟨fun _ _ => isPk_id n, fun _ _ _ => rfl, fun _ _ => id_iv.symm, fun _ _ => Nat.zero_le _, fun _ _ i hi => absurd hi (Nat.not_lt_zero i), isPk_id n⟩
theorem q_clearS {σ : Dz} {post : Dz → Prop} (hp : ∀ σ', eqO 17 28 σ σ' → CSit 17 clrS σ' → post σ') : P_X4_clear σ 17 post := by
  unfold P_X4_clear
  have key2 : ∀ k i σ', i + k = 4 → eqO 17 28 σ σ' → gz_i σ' 17 2 = 0 → gz_i σ' 17 3 = nI 1754760 → (∀ l, l < 10 → gz_i σ' 18 l = nI 1754760) → (∀ s, s < i → gz_i σ' (17 + 3 + 2 * s) 1 = 0) → L_X4_clear_35 17 post (k + 1) σ' (nI i) := by
    intro k
    induction k with
    | zero =>
      intro i σ' hi e h1 h2 h3 h4
      show B_X4_clear_35 _ _ _ _ _
      unfold B_X4_clear_35
      refine br_t (by simp (disch := omega) only [fa_lit, nI_add, pk_mul, nI_ltI, nI_leI, nI_eq] <;> omega) (hp σ' e ⟨⟨0, by omega, h1, fun m _ => Nat.zero_testBit m⟩, h2, h3, fun s hs => h4 s (by omega), fun s hs i hi => absurd hi (Nat.not_lt_zero i)⟩)
    | succ k ih =>
      intro i σ' hi e h1 h2 h3 h4
      show B_X4_clear_35 _ _ _ _ _
      unfold B_X4_clear_35 P_X6_clear
      rw [nI_clamp (by omega), nI_1]
      refine br_f (by simp (disch := omega) only [fa_lit, nI_add, pk_mul, nI_ltI, nI_leI, nI_eq] <;> omega) ⟨vp_in_nI (by omega) (by omega), ih (i + 1) _ (by omega) (e.si (by omega) (by omega) _ _) (by rw [gi_cell (by omega)]; exact h1) (by rw [gi_cell (by omega)]; exact h2) (fun l hl => by rw [gi_cell (by omega)]; exact h3 l hl) (fun s hs => ?_)⟩
      by_cases he : s = i
      · subst he; exact gi_same _ _ _ _
      · rw [gi_cell (by omega)]; exact h4 s (by omega)
  have key : ∀ k i σ', i + k = 10 → eqO 17 28 σ σ' → (∀ l, l < i → gz_i σ' 18 l = nI 1754760) → L_X4_clear_2 17 post (k + 1) σ' (nI i) := by
    intro k
    induction k with
    | zero =>
      intro i σ' hi e h1
      show B_X4_clear_2 _ _ _ _ _
      unfold B_X4_clear_2
      refine br_t (by simp (disch := omega) only [fa_lit, nI_add, pk_mul, nI_ltI, nI_leI, nI_eq] <;> omega) ⟨5, key2 4 0 _ rfl ((e.si (by omega) (by omega) _ _).si (by omega) (by omega) _ _) ?_ ?_ (fun l hl => ?_) (fun s hs => absurd hs (by omega))⟩
      · rw [gi_pl (by omega), gi_same]
      · rw [gi_same]; rfl
      · rw [gi_cell (by omega), gi_cell (by omega)]; exact h1 l (by omega)
    | succ k ih =>
      intro i σ' hi e h1
      show B_X4_clear_2 _ _ _ _ _
      unfold B_X4_clear_2
      rw [nI_clamp (by omega), nI_1]
      refine br_f (by simp (disch := omega) only [fa_lit, nI_add, pk_mul, nI_ltI, nI_leI, nI_eq] <;> omega) ⟨vp_in_nI (by omega) (by omega), ih (i + 1) _ (by omega) (e.si (by omega) (by omega) _ _) (fun l hl => ?_)⟩
      by_cases he : l = i
      · subst he; rw [gi_same]; rfl
      · rw [gi_pl he]; exact h1 l (by omega)
  exact ⟨11, key 10 0 σ rfl (eo_r _ _ _) (fun l hl => absurd hl (by omega))⟩
def resA (A : Abs) (p : Nat) : Abs := (p, clrS, A.2.2.1, A.er, none, A.fl, A.db)
theorem res_ok {A : Abs} (o : okA A) {p : Nat} (h1 : 2 ≤ p) (h2 : p ≤ 7) : okA (resA A p) := ⟨h1, h2, clr_ok p, o.tl, o.tx, o.er, fun s h => (by cases h), o.fl, o.db⟩
theorem m_reset {A : Abs} {σ : Dz} (m : MI A σ) {p : Nat} (h1 : 2 ≤ p) (h2 : p ≤ 7) {post : Int32 → Dz → Prop} (hp : ∀ σ', MI (resA A p) σ' → eqO 43 66 σ σ' → gz_i σ' 43 0 = 0 → post (nI A.n) σ') : P_X10_reset σ (nI p) post := by
  unfold P_X10_reset
  refine in_yes (lo := 2) (hi := 7) h1 h2 (by decide) (bn_f (by decide) ?_)
  rw [m.n]
  have e0 : eqO 43 48 σ (sz_i σ 43 1 (nI p)) := (eo_r _ _ _).si (by omega) (by omega) _ _
  have f0 : ∀ j, j ≠ 1 → gz_i (sz_i σ 43 1 (nI p)) 43 j = gz_i σ 43 j := fun j hj => gi_pl hj
  have g0 : gz_i (sz_i σ 43 1 (nI p)) 43 1 = nI p := gi_same _ _ _ _
  generalize sz_i σ 43 1 (nI p) = σ0 at e0 f0 g0
  have key3 : ∀ k i σ', i + k = 4 → eqO 44 48 σ0 σ' → (∀ q, q < 7 → gz_i σ' 44 (q + 1) = nI (q + 1)) → (∀ q, q < 5 → gz_i σ' 45 q = 0) → (∀ q, q < i → gz_i σ' 47 q = 0) → L_X10_reset_69 post (k + 1) σ' (nI A.n) (nI i) := by
    intro k
    induction k with
    | zero =>
      intro i σ' hi e t1 t2 t3
      show B_X10_reset_69 _ _ _ _ _
      unfold B_X10_reset_69
      refine br_t (by simp (disch := omega) only [fa_lit, nI_add, pk_mul, nI_ltI, nI_leI, nI_eq] <;> omega) (hp _ ?_ ((((e0.tr (e.mono (by omega) (by omega))).si (by omega) (by omega) _ _).si (by omega) (by omega) _ _).si (by omega) (by omega) _ _ |>.mono (by omega) (by omega)) (gi_same _ _ _ _))
      have row : ∀ c j, c ≠ 43 → gz_i (sz_i (sz_i (sz_i σ' 43 12 0) 43 27 0) 43 0 0) c j = gz_i σ' c j := fun c j hc => by rw [gi_cell hc, gi_cell hc, gi_cell hc]
      have fld : ∀ j, j ≠ 0 → j ≠ 1 → j ≠ 12 → j ≠ 27 → gz_i (sz_i (sz_i (sz_i σ' 43 12 0) 43 27 0) 43 0 0) 43 j = gz_i σ 43 j := fun j h0 h1 h12 h27 => by rw [gi_pl h0, gi_pl h27, gi_pl h12, e.i (by omega), f0 j h1]
      refine ⟨?_, ?_, ?_, ⟨fun q hq => ?_, fun q hq => ?_, fun l hl hd => (by cases hd), fun q hq => ?_, fun q hq i hi => absurd hi (Nat.not_lt_zero i)⟩, fun s h => (by cases h), ?_, fun i hi => ?_, fun j hj => ?_, fun j hj => ?_, Or.inl ?_⟩
      · rw [gi_pl (by omega), gi_pl (by omega), gi_pl (by omega), e.i (by omega), g0]; rfl
      · rw [fld 9 (by omega) (by omega) (by omega) (by omega)]; exact m.er
      · rw [gi_pl (by omega), gi_pl (by omega), gi_same]; rfl
      · have hq : q < p := hq
        rw [row _ _ (by omega), t1 q (by omega)]
        show _ = nI (imgN (ivN 1754760) q + 1)
        rw [id_iv, img_id q (by omega)]
      · rw [row _ _ (by omega), t2 q hq]; rfl
      · rw [row _ _ (by omega), t3 q (by omega)]; rfl
      · rw [fld 8 (by omega) (by omega) (by omega) (by omega)]; exact m.tl
      · rw [row _ _ (by omega), e.i (by omega), e0.i (by omega)]; exact m.tx i hi
      · have : gz_f (sz_i (sz_i (sz_i σ' 43 12 0) 43 27 0) 43 0 0) 50 j = gz_f σ' 50 j := rfl
        rw [this, e.f (by omega), e0.f (by omega)]; exact m.fl j hj
      · have : gz_d (sz_i (sz_i (sz_i σ' 43 12 0) 43 27 0) 43 0 0) 51 j = gz_d σ' 51 j := rfl
        rw [this, e.d (by omega), e0.d (by omega)]; exact m.db j hj
      · rw [gi_pl (by omega), gi_same]
    | succ k ih =>
      intro i σ' hi e t1 t2 t3
      show B_X10_reset_69 _ _ _ _ _
      unfold B_X10_reset_69
      rw [nI_clamp (by omega), nI_1]
      refine br_f (by simp (disch := omega) only [fa_lit, nI_add, pk_mul, nI_ltI, nI_leI, nI_eq] <;> omega) ⟨vp_in_nI (by omega) (by omega), ih (i + 1) _ (by omega) (e.si (by omega) (by omega) _ _) (fun q hq => by rw [gi_cell (by omega)]; exact t1 q hq) (fun q hq => by rw [gi_cell (by omega)]; exact t2 q hq) (fun q hq => ?_)⟩
      by_cases he : q = i
      · subst he; exact gi_same _ _ _ _
      · rw [gi_pl he]; exact t3 q (by omega)
  have key2 : ∀ k i σ', i + k = 5 → eqO 44 48 σ0 σ' → (∀ q, q < 7 → gz_i σ' 44 (q + 1) = nI (q + 1)) → (∀ q, q < i → gz_i σ' 45 q = 0) → L_X10_reset_49 post (k + 1) σ' (nI A.n) (nI i) := by
    intro k
    induction k with
    | zero =>
      intro i σ' hi e t1 t2
      show B_X10_reset_49 _ _ _ _ _
      unfold B_X10_reset_49
      exact br_t (by simp (disch := omega) only [fa_lit, nI_add, pk_mul, nI_ltI, nI_leI, nI_eq] <;> omega) ⟨5, key3 4 0 σ' rfl e t1 (fun q hq => t2 q (by omega)) (fun q hq => absurd hq (by omega))⟩
    | succ k ih =>
      intro i σ' hi e t1 t2
      show B_X10_reset_49 _ _ _ _ _
      unfold B_X10_reset_49
      rw [nI_clamp (by omega), nI_1]
      refine br_f (by simp (disch := omega) only [fa_lit, nI_add, pk_mul, nI_ltI, nI_leI, nI_eq] <;> omega) ⟨vp_in_nI (by omega) (by omega), ih (i + 1) _ (by omega) (e.si (by omega) (by omega) _ _) (fun q hq => by rw [gi_cell (by omega)]; exact t1 q hq) (fun q hq => ?_)⟩
      by_cases he : q = i
      · subst he; exact gi_same _ _ _ _
      · rw [gi_pl he]; exact t2 q (by omega)
  have key : ∀ k i σ', i + k = 8 → 1 ≤ i → eqO 44 48 σ0 σ' → (∀ q, q + 1 < i → gz_i σ' 44 (q + 1) = nI (q + 1)) → L_X10_reset_28 post (k + 1) σ' (nI A.n) (nI i) := by
    intro k
    induction k with
    | zero =>
      intro i σ' hi hi1 e t1
      show B_X10_reset_28 _ _ _ _ _
      unfold B_X10_reset_28
      exact br_t (by simp (disch := omega) only [fa_lit, nI_add, pk_mul, nI_ltI, nI_leI, nI_eq] <;> omega) ⟨6, key2 5 0 σ' rfl e (fun q hq => t1 q (by omega)) (fun q hq => absurd hq (by omega))⟩
    | succ k ih =>
      intro i σ' hi hi1 e t1
      show B_X10_reset_28 _ _ _ _ _
      unfold B_X10_reset_28
      rw [nI_clamp (by omega), nI_1]
      refine br_f (by simp (disch := omega) only [fa_lit, nI_add, pk_mul, nI_ltI, nI_leI, nI_eq] <;> omega) ⟨vp_in_nI (by omega) (by omega), ih (i + 1) _ (by omega) (by omega) (e.si (by omega) (by omega) _ _) (fun q hq => ?_)⟩
      by_cases he : q + 1 = i
      · rw [he]; exact gi_same _ _ _ _
      · rw [gi_pl he]; exact t1 q (by omega)
  exact ⟨8, key 7 1 σ0 rfl (by omega) (eo_r _ _ _) (fun q hq => absurd hq (by omega))⟩
theorem cs_reset {L : Nat} {xs : Nat → Int32} {rc : Dz → Int32 → Prop} {σ : Dz} {y5 : Int32} (h1 : vp_in (y5 + 1) L) (hI : Inv σ) (hr : ∀ σ', Inv σ' → rc σ' (y5 + 4)) : B_L_law_188 L xs rc σ y5 := by
  unfold B_L_law_188 P_L_reset P_X9_reset
  refine ⟨h1, ?_⟩
  generalize xs (y5 + 1).toNatClampNeg = x
  obtain ⟨A, o, c, m⟩ := hI
  rcases rng_cases x (lo := 2) (hi := 7) (by decide) (by decide) with ⟨p, hp1, hp2, rfl⟩ | hx
  · refine br_f (by simp (disch := omega) only [fa_lit, nI_add, pk_mul, nI_ltI, nI_leI, nI_eq] <;> omega) (br_t (by simp (disch := omega) only [fa_lit, nI_add, pk_mul, nI_ltI, nI_leI, nI_eq] <;> omega) (q_clearS fun σ1 e1 s1 => ⟨h1, ?_⟩))
    have c0 : eqO 0 43 σ (sz_i σ 0 11 (nI p)) := (eo_r _ _ _).si (by omega) (by omega) _ _
    have e2 : eqO 0 43 σ (sz_i (sz_i σ1 0 13 0) 0 14 0) := ((c0.tr (e1.mono (by omega) (by omega))).si (by omega) (by omega) _ _).si (by omega) (by omega) _ _
    have row : ∀ k j, k ≠ 0 → gz_i (sz_i (sz_i σ1 0 13 0) 0 14 0) k j = gz_i σ1 k j := fun k j hk => by rw [gi_cell hk, gi_cell hk]
    have rowo : ∀ k j, k ≠ 0 → (k < 17 ∨ 28 ≤ k) → gz_i (sz_i (sz_i σ1 0 13 0) 0 14 0) k j = gz_i σ k j := fun k j hk h => by rw [row k j hk, e1.i h, gi_cell hk]
    have c2 : CI (resA A p) (sz_i (sz_i σ1 0 13 0) 0 14 0) := by
      refine ⟨?_, ?_, ?_, s1.keep fun k h1 h2 j => row k j (by omega), fun s h => (by cases h), ?_, fun i hi => ?_, fun j hj => ?_, fun j hj => ?_, Or.inl ⟨?_, by rw [rowo _ _ (by omega) (by omega)]; exact c.z0⟩⟩
      · rw [gi_pl (by omega), gi_pl (by omega), e1.i (by omega), gi_same]; rfl
      · rw [gi_pl (by omega), gi_pl (by omega), e1.i (by omega), gi_pl (by omega)]; exact c.er
      · rw [gi_pl (by omega), gi_same]; rfl
      · rw [rowo _ _ (by omega) (by omega)]; exact c.tl
      · rw [rowo _ _ (by omega) (by omega)]; exact c.tx i hi
      · have : gz_f (sz_i (sz_i σ1 0 13 0) 0 14 0) 41 j = gz_f σ1 41 j := rfl
        rw [this, e1.f (by omega)]; exact c.fl j hj
      · have : gz_d (sz_i (sz_i σ1 0 13 0) 0 14 0) 42 j = gz_d σ1 42 j := rfl
        rw [this, e1.d (by omega)]; exact c.db j hj
      · exact gi_same _ _ _ _
    rw [c.n]
    exact m_reset ((m.byC e2).sl _ _) hp1 hp2 fun σ3 m3 e3 h3 => both_i (res_ok o hp1 hp2) c2 m3 e3 h3 hr
  · have hm : ∀ post : Int32 → Prop, post 0 → P_X10_in x 2 7 post := fun post hp => in_no (lo := 2) (hi := 7) hx hp
    have fin : vp_in (y5 + 1) L ∧ P_X10_reset σ x (fun (r208 : Int32) (τ208 : Dz) => (P_X10_thrown τ208 (fun (r214 : Int32) => ((r214 = 1 → ((¬ (1 : Int32) = 0 → rc τ208 (y5 + (4))) ∧ ((1 : Int32) = 0 → (((lg_cmp (gz_l τ208 66 ((0 : Int32)).toNatClampNeg) ((r208).toInt64)) = 0 → rc τ208 (y5 + (4))) ∧ (¬ (lg_cmp (gz_l τ208 66 ((0 : Int32)).toNatClampNeg) ((r208).toInt64)) = 0 → False))))) ∧ (¬ r214 = 1 → False))))) := ⟨h1, hm _ (bn_t rfl (bad_i o c m (by decide) hr))⟩
    by_cases h2 : x < 2
    · exact br_t h2 ⟨rfl, fin⟩
    · refine br_f h2 (br_f (fun h7 => ?_) ⟨rfl, fin⟩)
      have h8 := hx.resolve_left h2
      rw [fa_lt] at h8; rw [fa_le] at h7
      have : (7 : Int32).toInt = (nI 7).toInt := rfl
      omega
def appA (A : Abs) (v : Nat) : Abs := (A.n, A.S, (A.tl + 1, catD A.tx A.tl (fun _ => v)), A.2.2.2)
theorem app_ok {A : Abs} (o : okA A) {v : Nat} (h : A.tl < 40) (h1 : 32 ≤ v) (h2 : v ≤ 126) : okA (appA A v) := ⟨o.n1, o.n2, o.S, h, (cat_ok (P := fun x => 32 ≤ x ∧ x ≤ 126) (m := 1) o.tx (fun _ _ => ⟨h1, h2⟩)), o.er, o.sv, o.fl, o.db⟩
theorem cs_append {L : Nat} {xs : Nat → Int32} {rc : Dz → Int32 → Prop} {σ : Dz} {y5 : Int32} (h1 : vp_in (y5 + 1) L) (hI : Inv σ) (hr : ∀ σ', Inv σ' → rc σ' (y5 + 4)) : B_L_law_257 L xs rc σ y5 := by
  unfold B_L_law_257 P_L_append P_X9_append P_X10_append
  refine ⟨h1, ?_⟩
  obtain ⟨v, hv, ev⟩ := ch_ex (xs (y5 + 1).toNatClampNeg)
  rw [ev]
  obtain ⟨A, o, c, m⟩ := hI
  have ht := o.tl
  by_cases hlo : v < 32
  · exact br_t (by simp (disch := omega) only [fa_lit, nI_add, pk_mul, nI_ltI, nI_leI, nI_eq] <;> omega) (Or.inl ⟨rfl, h1, in_no (lo := 32) (hi := 126) (Or.inl (by simp (disch := omega) only [fa_lit, nI_add, pk_mul, nI_ltI, nI_leI, nI_eq] <;> omega)) (bn_t rfl (bad_i o c m (by decide) hr))⟩)
  · by_cases hhi : 126 < v
    · exact br_f (by simp (disch := omega) only [fa_lit, nI_add, pk_mul, nI_ltI, nI_leI, nI_eq] <;> omega) (br_f (by simp (disch := omega) only [fa_lit, nI_add, pk_mul, nI_ltI, nI_leI, nI_eq] <;> omega) (Or.inl ⟨rfl, h1, in_no (lo := 32) (hi := 126) (Or.inr (by simp (disch := omega) only [fa_lit, nI_add, pk_mul, nI_ltI, nI_leI, nI_eq] <;> omega)) (bn_t rfl (bad_i o c m (by decide) hr))⟩))
    · refine br_f (by simp (disch := omega) only [fa_lit, nI_add, pk_mul, nI_ltI, nI_leI, nI_eq] <;> omega) (br_t (by simp (disch := omega) only [fa_lit, nI_add, pk_mul, nI_ltI, nI_leI, nI_eq] <;> omega) ?_)
      unfold P_X5_add
      rw [c.tl]
      by_cases hl : A.tl < 40
      · refine br_t (by simp (disch := omega) only [fa_lit, nI_add, pk_mul, nI_ltI, nI_leI, nI_eq] <;> omega) ⟨ch_nar hv, vp_in_nI hl (by omega), bn_f (by decide) ?_⟩
        show vp_in _ _ ∧ _
        refine ⟨h1, in_yes (lo := 32) (hi := 126) (by omega) (by omega) (by decide) (bn_f (by decide) ?_)⟩
        rw [nI_clamp (by omega), gi_same, gi_cell (by omega), c.tl, nI_1]
        have e2 : eqO 0 43 σ (sz_i (sz_i σ 2 A.tl (nI v)) 1 1 (nI (A.tl + 1))) := ((eo_r _ _ _).si (by omega) (by omega) _ _).si (by omega) (by omega) _ _
        have c2 : CI (appA A v) (sz_i (sz_i σ 2 A.tl (nI v)) 1 1 (nI (A.tl + 1))) := by
          have row : ∀ k j, k ≠ 1 → k ≠ 2 → gz_i (sz_i (sz_i σ 2 A.tl (nI v)) 1 1 (nI (A.tl + 1))) k j = gz_i σ k j := fun k j h1 h2 => by rw [gi_cell h1, gi_cell h2]
          refine ⟨by rw [row _ _ (by omega) (by omega)]; exact c.n, by rw [row _ _ (by omega) (by omega)]; exact c.er, by rw [row _ _ (by omega) (by omega)]; exact c.hs, c.S.keep fun k _ _ j => row k j (by omega) (by omega), fun s h => (c.sv s h).keep fun k _ _ j => row k j (by omega) (by omega), gi_same _ _ _ _, fun i hi => ?_, c.fl, c.db, ?_⟩
          · have hi : i < A.tl + 1 := hi
            rw [gi_cell (by omega)]
            show _ = nI (catD A.tx A.tl (fun _ => v) i)
            by_cases he : i = A.tl
            · rw [he, gi_same, catD_1 _ _ _ (Nat.le_refl _)]
            · rw [gi_pl he, catD_0 _ _ _ (by omega)]; exact c.tx i (by omega)
          · rw [row _ _ (by omega) (by omega)]
            exact c.tb.imp (fun t => ⟨t.1, by rw [row _ _ (by omega) (by omega)]; exact t.2⟩) fun t => ⟨t.1, t.2.keep fun k _ _ j => row k j (by omega) (by omega)⟩
        have m2 := (m.byC e2).sl ((0 : Int32)).toNatClampNeg (nI (A.tl + 1)).toInt64
        have c3 := c2.sl ((0 : Int32)).toNatClampNeg (nI (A.tl + 1)).toInt64
        have hl2 : gz_l (sz_l (sz_i (sz_i σ 2 A.tl (nI v)) 1 1 (nI (A.tl + 1))) 66 ((0 : Int32)).toNatClampNeg (nI (A.tl + 1)).toInt64) 66 0 = (nI (A.tl + 1)).toInt64 := gl_same _ _ _ _
        generalize sz_l (sz_i (sz_i σ 2 A.tl (nI v)) 1 1 (nI (A.tl + 1))) 66 ((0 : Int32)).toNatClampNeg (nI (A.tl + 1)).toInt64 = τ at m2 c3 hl2
        rw [m2.tl]
        refine bn_f (by simp (disch := omega) only [fa_lit, nI_add, pk_mul, nI_ltI, nI_leI, nI_eq] <;> omega) ⟨ch_nar hv, vp_in_nI hl (by omega), ?_⟩
        rw [nI_clamp (by omega), gi_same, gi_cell (by omega), m2.tl, nI_1]
        refine tl_i (gi_same _ _ _ _) (fun _ => hl2) (hr _ ⟨appA A v, app_ok o hl (by omega) (by omega), c3.byM ((((eo_r 43 66 τ).si (by omega) (by omega) _ _).si (by omega) (by omega) _ _).si (by omega) (by omega) _ _), ?_⟩)
        have row : ∀ k j, k ≠ 43 → k ≠ 49 → gz_i (sz_i (sz_i (sz_i τ 49 A.tl (nI v)) 43 8 (nI (A.tl + 1))) 43 0 0) k j = gz_i τ k j := fun k j h1 h2 => by rw [gi_cell h1, gi_cell h1, gi_cell h2]
        have fld : ∀ j, j ≠ 0 → j ≠ 8 → gz_i (sz_i (sz_i (sz_i τ 49 A.tl (nI v)) 43 8 (nI (A.tl + 1))) 43 0 0) 43 j = gz_i τ 43 j := fun j h1 h2 => by rw [gi_pl h1, gi_pl h2, gi_cell (by omega)]
        refine ⟨by rw [fld _ (by omega) (by omega)]; exact m2.n, by rw [fld _ (by omega) (by omega)]; exact m2.er, by rw [fld _ (by omega) (by omega)]; exact m2.hs, m2.S.keep fun k _ _ j => row k j (by omega) (by omega), fun s h => (m2.sv s h).keep fun k _ _ j => row k j (by omega) (by omega), ?_, fun i hi => ?_, m2.fl, m2.db, ?_⟩
        · rw [gi_pl (by omega)]; exact gi_same _ _ _ _
        · have hi : i < A.tl + 1 := hi
          rw [gi_cell (by omega), gi_cell (by omega)]
          show _ = nI (catD A.tx A.tl (fun _ => v) i)
          by_cases he : i = A.tl
          · rw [he, gi_same, catD_1 _ _ _ (Nat.le_refl _)]
          · rw [gi_pl he, catD_0 _ _ _ (by omega)]; exact m2.tx i (by omega)
        · rw [fld _ (by omega) (by omega)]
          exact m2.tb.imp id fun t => ⟨t.1, t.2.keep (fld _ (by omega) (by omega)) (fld _ (by omega) (by omega)) (fun j => row _ j (by omega) (by omega)) (fun j => row _ j (by omega) (by omega))⟩
      · refine br_f (by simp (disch := omega) only [fa_lit, nI_add, pk_mul, nI_ltI, nI_leI, nI_eq] <;> omega) (bn_t rfl (Or.inr ⟨rfl, h1, in_yes (lo := 32) (hi := 126) (by omega) (by omega) (by decide) (bn_f (by decide) ?_)⟩))
        rw [m.tl]
        exact bn_t (by rw [show A.tl = 40 by omega]; rfl) (bad_i o c m (by decide) hr)
end QSituation
