/-! reading cycles -/
section QCycles
/-- k characters are left; the effect so far, the used positions, and in an open cycle: count, first, last -/
def cr (n L : Nat) (t : Nat → Nat) : Nat → Nat → Nat → Option (Nat × Nat × Nat) → Nat ⊕ Nat
  | 0, E, _, none => .inr E
  | 0, _, _, some _ => .inl L
  | k + 1, E, U, none => if t (L - (k + 1)) = 40 then cr n L t k E U (some (0, 0, 0)) else .inl (L - (k + 1))
  | k + 1, E, U, some (c, f, l) =>
    if t (L - (k + 1)) = 41 then (if c < 2 then .inl (L - (k + 1)) else cr n L t k (setN E l f) U none)
    else if 49 ≤ t (L - (k + 1)) ∧ t (L - (k + 1)) < 49 + n ∧ U.testBit (t (L - (k + 1)) - 49) = false then
      cr n L t k (if c = 0 then E else setN E l (t (L - (k + 1)) - 49)) (U ||| 2 ^ (t (L - (k + 1)) - 49)) (some (c + 1, if c = 0 then t (L - (k + 1)) - 49 else f, t (L - (k + 1)) - 49))
    else .inl (L - (k + 1))
def stOK (k : Nat) : Option (Nat × Nat × Nat) → Prop
  | none => True
  | some (c, f, l) => c + k ≤ 40 ∧ (c ≠ 0 → f < 7 ∧ l < 7)
def CR (E U : Nat) (st : Option (Nat × Nat × Nat)) (σ : Dz) : Prop := gz_i σ 3 0 = nI E ∧ gz_i σ 3 1 = nI U ∧ match st with
  | none => gz_i σ 3 5 = 0
  | some (c, f, l) => gz_i σ 3 5 = 1 ∧ gz_i σ 3 2 = nI c ∧ (c ≠ 0 → gz_i σ 3 3 = nI f ∧ gz_i σ 3 4 = nI l)
theorem or_128 {U p : Nat} (h : U < 128) (hp : p < 7) : U ||| 2 ^ p < 128 := Nat.or_lt_two_pow (n := 7) h (Nat.pow_lt_pow_right (by omega) hp)
theorem q_textAt {A : Abs} (o : okA A) {σ : Dz} (h1 : gz_i σ 1 1 = nI A.tl) (h2 : ∀ i, i < A.tl → gz_i σ 2 i = nI (A.tx i)) {i : Nat} (hi : i < A.tl) {post : Int32 → Prop} (hp : post (nI (A.tx i))) : P_X5_at σ (nI i) post := by
  unfold P_X5_at
  have hl := o.tl
  have ht := o.tx i hi
  rw [h1, nI_clamp (by omega), h2 i hi]
  exact br_f (qn_lt (by omega)) (br_f (by simp (disch := omega) only [fa_lit, nI_add, pk_mul, nI_ltI, nI_leI, nI_eq] <;> omega) ⟨vp_in_nI (by omega) (by omega), ch_nar (by omega), hp⟩)
theorem c_cr {A : Abs} (o : okA A) {σ : Dz} (c : CI A σ) {post : Int32 → Dz → Prop} : ∀ k E U st σ', k ≤ A.tl → eqO 3 4 σ σ' → CR E U st σ' → U < 128 → stOK k st → (∀ e, cr A.n A.tl A.tx k E U st = .inl e → ∀ σ'', eqO 3 4 σ σ'' → post (nI e) σ'') → (∀ F, cr A.n A.tl A.tx k E U st = .inr F → ∀ σ'', eqO 3 4 σ σ'' → gz_i σ'' 3 0 = nI F → post (-1) σ'') → L_X1_errorIn_18 post (k + 1) σ' (nI A.n) (nI (A.tl - k)) := by
  have h7 := o.n2
  have hl := o.tl
  intro k
  induction k with
  | zero =>
    intro E U st σ' hk e h hU hs h1 h2
    show B_X1_errorIn_18 _ _ _ _ _
    unfold B_X1_errorIn_18 P_X5_length
    have hl1 : gz_i σ' 1 1 = nI A.tl := by rw [e.i (by omega), c.tl]
    rw [hl1]
    refine br_t (by simp (disch := omega) only [fa_lit, nI_add, pk_mul, nI_ltI, nI_leI, nI_eq] <;> omega) ?_
    cases st with
    | none =>
      rw [show gz_i σ' 3 5 = 0 from h.2.2]
      exact br_t rfl (h2 E rfl σ' e h.1)
    | some q =>
      obtain ⟨a, f, l⟩ := q
      rw [show gz_i σ' 3 5 = 1 from h.2.2.1]
      exact br_f (by decide) (h1 A.tl rfl σ' e)
  | succ k ih =>
    intro E U st σ' hk e h hU hs h1 h2
    show B_X1_errorIn_18 _ _ _ _ _
    unfold B_X1_errorIn_18 P_X5_length
    have hl1 : gz_i σ' 1 1 = nI A.tl := by rw [e.i (by omega), c.tl]
    rw [hl1]
    refine br_f (by simp (disch := omega) only [fa_lit, nI_add, pk_mul, nI_ltI, nI_leI, nI_eq] <;> omega) (q_textAt o hl1 (fun i hi => by rw [e.i (by omega)]; exact c.tx i hi) (by omega) ?_)
    have ht := o.tx (A.tl - (k + 1)) (by omega)
    have enx : nI (A.tl - (k + 1)) + 1 = nI (A.tl - k) := by rw [nI_1]; congr 1; omega
    unfold P_X1_accepts
    cases st with
    | none =>
      rw [show gz_i σ' 3 5 = 0 from h.2.2]
      rw [cr] at h1 h2
      refine bn_t rfl ?_
      by_cases hc : A.tx (A.tl - (k + 1)) = 40
      · rw [if_pos hc] at h1 h2
        rw [hc]
        refine bn_t rfl (bn_f (by decide) ?_)
        rw [enx]
        refine ih E U (some (0, 0, 0)) _ (by omega) ((e.si (by omega) (by omega) _ _).si (by omega) (by omega) _ _) ⟨?_, ?_, ?_, ?_, fun z => absurd rfl z⟩ hU ⟨by omega, fun z => absurd rfl z⟩ h1 h2
        · rw [gi_pl (by omega), gi_pl (by omega)]; exact h.1
        · rw [gi_pl (by omega), gi_pl (by omega)]; exact h.2.1
        · rw [gi_pl (by omega), gi_same]
        · rw [gi_same]; rfl
      · rw [if_neg hc] at h1 h2
        exact bn_f (by simp (disch := omega) only [fa_lit, nI_add, pk_mul, nI_ltI, nI_leI, nI_eq] <;> omega) (bn_t rfl (h1 _ rfl _ ((e.si (by omega) (by omega) _ _).si (by omega) (by omega) _ _)))
    | some q =>
      obtain ⟨a, f, l⟩ := q
      have h5 := h.2.2.1
      have h52 := h.2.2.2.1
      have h53 := h.2.2.2.2
      rw [h5]
      rw [cr] at h1 h2
      refine bn_f (by decide) ?_
      by_cases hc : A.tx (A.tl - (k + 1)) = 41
      · rw [if_pos hc] at h1 h2
        rw [hc]
        refine bn_t rfl ?_
        rw [gi_pl (by omega), gi_pl (by omega), gi_pl (by omega)]
        by_cases ha : a < 2
        · rw [if_pos ha] at h1
          unfold P_X3_withImage
          show (gz_i (sz_i (sz_i σ' 3 5 0) 3 0 _) 3 2 < 2 → _) ∧ _
          rw [gi_pl (by omega), gi_pl (by omega), h52]
          refine br_t (by simp (disch := omega) only [fa_lit, nI_add, pk_mul, nI_ltI, nI_leI, nI_eq] <;> omega) (bn_t rfl (h1 _ rfl _ ((e.si (by omega) (by omega) _ _).si (by omega) (by omega) _ _)))
        · rw [if_neg ha] at h1 h2
          have hfl := hs.2 (by omega)
          have hfl2 := h53 (by omega)
          have := hs.1
          rw [h.1, hfl2.1, hfl2.2]
          refine q_withImage hfl.2 (by omega) ?_
          rw [gi_pl (by omega), gi_pl (by omega), h52]
          refine br_f (by simp (disch := omega) only [fa_lit, nI_add, pk_mul, nI_ltI, nI_leI, nI_eq] <;> omega) (bn_f (by decide) ?_)
          rw [enx]
          refine ih (setN E l f) U none _ (by omega) ((e.si (by omega) (by omega) _ _).si (by omega) (by omega) _ _) ⟨gi_same _ _ _ _, ?_, ?_⟩ hU trivial h1 h2
          · rw [gi_pl (by omega), gi_pl (by omega)]; exact h.2.1
          · show gz_i _ 3 5 = 0
            rw [gi_pl (by omega), gi_same]
      · rw [if_neg hc] at h1 h2
        refine bn_f (by simp (disch := omega) only [fa_lit, nI_add, pk_mul, nI_ltI, nI_leI, nI_eq] <;> omega) ?_
        have hsk := hs.1
        unfold P_X1_acceptsPosition
        by_cases hlo : A.tx (A.tl - (k + 1)) < 49
        · rw [if_neg (by omega)] at h1
          exact br_t (pk_sneg (by decide) hlo) ⟨Or.inl rfl, bn_t rfl (h1 _ rfl _ e)⟩
        · rw [show nI (A.tx (A.tl - (k + 1))) - 49 = nI (A.tx (A.tl - (k + 1)) - 49) from pk_sub (b := 49) (by omega)]
          refine br_f (qn_lt (by omega)) ?_
          by_cases hhi : A.n ≤ A.tx (A.tl - (k + 1)) - 49
          · rw [if_neg (by omega)] at h1
            exact br_t (by simp (disch := omega) only [fa_lit, nI_add, pk_mul, nI_ltI, nI_leI, nI_eq] <;> omega) ⟨Or.inl rfl, bn_t rfl (h1 _ rfl _ e)⟩
          · refine br_f (by simp (disch := omega) only [fa_lit, nI_add, pk_mul, nI_ltI, nI_leI, nI_eq] <;> omega) ?_
            rw [h.2.1]
            by_cases hb : U.testBit (A.tx (A.tl - (k + 1)) - 49) = true
            · rw [if_neg (by rw [hb]; simp)] at h1
              exact bn_t ((bit_q hU (by omega)).mpr hb) ⟨Or.inl rfl, bn_t rfl (h1 _ rfl _ e)⟩
            · have hb2 : U.testBit (A.tx (A.tl - (k + 1)) - 49) = false := by
                cases z : U.testBit (A.tx (A.tl - (k + 1)) - 49) with
                | true => exact absurd z hb
                | false => rfl
              rw [if_pos ⟨by omega, by omega, hb2⟩] at h1 h2
              refine bn_f (fun z => hb ((bit_q hU (by omega)).mp z)) ?_
              rw [q_shl1 (by omega), fa_or, gi_pl (by omega), h52]
              unfold B_X1_acceptsPosition_66
              by_cases ha : a = 0
              · subst ha
                rw [if_pos rfl, if_pos rfl] at h1 h2
                refine bn_t rfl ⟨Or.inr rfl, bn_f (by decide) ?_⟩
                rw [gi_pl (by omega), gi_pl (by omega), gi_pl (by omega), h52, nI_1, enx]
                refine ih E _ (some (0 + 1, _, _)) _ (by omega) ((((e.si (by omega) (by omega) _ _).si (by omega) (by omega) _ _).si (by omega) (by omega) _ _).si (by omega) (by omega) _ _) ⟨?_, ?_, ?_, gi_same _ _ _ _, fun _ => ⟨?_, ?_⟩⟩ (or_128 hU (by omega)) ⟨by omega, fun _ => ⟨by omega, by omega⟩⟩ h1 h2
                · rw [gi_pl (by omega), gi_pl (by omega), gi_pl (by omega), gi_pl (by omega)]; exact h.1
                · rw [gi_pl (by omega), gi_pl (by omega), gi_pl (by omega), gi_same]
                · rw [gi_pl (by omega), gi_pl (by omega), gi_pl (by omega), gi_pl (by omega)]; exact h5
                · rw [gi_pl (by omega), gi_pl (by omega), gi_same]
                · rw [gi_pl (by omega), gi_same]
              · rw [if_neg ha, if_neg ha] at h1 h2
                have hfl := hs.2 ha
                have hfl2 := h53 ha
                refine bn_f (by simp (disch := omega) only [fa_lit, nI_add, pk_mul, nI_ltI, nI_leI, nI_eq] <;> omega) ?_
                rw [gi_pl (by omega), gi_pl (by omega), h.1, hfl2.2]
                refine q_withImage hfl.2 (by omega) ⟨Or.inr rfl, bn_f (by decide) ?_⟩
                rw [gi_pl (by omega), gi_pl (by omega), gi_pl (by omega), h52, nI_1, enx]
                refine ih _ _ (some (a + 1, _, _)) _ (by omega) ((((e.si (by omega) (by omega) _ _).si (by omega) (by omega) _ _).si (by omega) (by omega) _ _).si (by omega) (by omega) _ _) ⟨?_, ?_, ?_, gi_same _ _ _ _, fun _ => ⟨?_, ?_⟩⟩ (or_128 hU (by omega)) ⟨by omega, fun _ => ⟨hfl.1, by omega⟩⟩ h1 h2
                · rw [gi_pl (by omega), gi_pl (by omega), gi_same]
                · rw [gi_pl (by omega), gi_pl (by omega), gi_pl (by omega), gi_same]
                · rw [gi_pl (by omega), gi_pl (by omega), gi_pl (by omega), gi_pl (by omega)]; exact h5
                · rw [gi_pl (by omega), gi_pl (by omega), gi_pl (by omega), gi_pl (by omega)]; exact hfl2.1
                · rw [gi_pl (by omega), gi_same]
theorem c_errorIn {A : Abs} (o : okA A) {σ : Dz} (c : CI A σ) {post : Int32 → Dz → Prop} (h1 : ∀ e, cr A.n A.tl A.tx A.tl 1754760 0 none = .inl e → ∀ σ'', eqO 3 4 σ σ'' → post (nI e) σ'') (h2 : ∀ F, cr A.n A.tl A.tx A.tl 1754760 0 none = .inr F → ∀ σ'', eqO 3 4 σ σ'' → gz_i σ'' 3 0 = nI F → post (-1) σ'') : P_X1_errorIn σ (nI A.n) post := by
  unfold P_X1_errorIn
  have := c_cr o c A.tl 1754760 0 none (sz_i (sz_i (sz_i σ 3 0 1754760) 3 1 0) 3 5 0) (Nat.le_refl _) ((((eo_r 3 4 σ).si (by omega) (by omega) _ _).si (by omega) (by omega) _ _).si (by omega) (by omega) _ _) ⟨by rw [gi_pl (by omega), gi_pl (by omega), gi_same]; rfl, by rw [gi_pl (by omega), gi_same]; rfl, gi_same _ _ _ _⟩ (by omega) trivial h1 h2
  rw [Nat.sub_self] at this
  exact ⟨A.tl + 1, this⟩
/-! what is read is a permutation -/
def crI (n E U : Nat) : Option (Nat × Nat × Nat) → Prop
  | none => isPk n E ∧ ∀ p, p < 7 → U.testBit p = false → imgN E p = p
  | some (c, f, l) => E < 2097152 ∧ (∀ p, p < 7 → U.testBit p = false → imgN E p = p) ∧ (c = 0 → isPk n E) ∧ (c ≠ 0 → f < n ∧ l < n ∧ isPk n (setN E l f) ∧ imgN E l = l ∧ U.testBit l = true)
theorem cr_pk {n L : Nat} {t : Nat → Nat} (h7 : n ≤ 7) : ∀ k E U st F, crI n E U st → cr n L t k E U st = .inr F → isPk n F
  | 0, E, U, none, F, h, e => by rw [cr] at e; cases e; exact h.1
  | 0, E, U, some _, F, h, e => by rw [cr] at e; cases e
  | k + 1, E, U, none, F, h, e => by
    rw [cr] at e
    split at e
    · exact cr_pk h7 k E U (some (0, 0, 0)) F ⟨h.1.1, h.2, fun _ => h.1, fun z => absurd rfl z⟩ e
    · cases e
  | k + 1, E, U, some (c, f, l), F, h, e => by
    rw [cr] at e
    obtain ⟨b1, b2, b3, b4⟩ := h
    split at e
    · split at e
      · cases e
      · obtain ⟨d1, d2, d3, d4, d5⟩ := b4 (by omega)
        refine cr_pk h7 k _ U none F ⟨d3, fun p hp hu => ?_⟩ e
        rw [img_set (by omega) (by omega) hp]
        by_cases ep : p = l
        · rw [ep, d5] at hu; cases hu
        · rw [if_neg ep]; exact b2 p hp hu
    · split at e
      · rename_i hq
        obtain ⟨q1, q2, q3⟩ := hq
        generalize hqq : t (L - (k + 1)) - 49 = q at *
        have hqn : q < n := by omega
        have hqf := b2 q (by omega) q3
        have nu : ∀ p, (U ||| 2 ^ q).testBit p = false → U.testBit p = false ∧ p ≠ q := by
          intro p hp
          rw [fb_bit_set, Bool.or_eq_false_iff, decide_eq_false_iff_not] at hp
          exact hp
        by_cases hc : c = 0
        · rw [if_pos hc, if_pos hc] at e
          have pE := b3 hc
          refine cr_pk h7 k E (U ||| 2 ^ q) (some (c + 1, q, q)) F ⟨b1, fun p hp hu => b2 p hp (nu p hu).1, fun z => absurd z (by omega), fun _ => ⟨hqn, hqn, ?_, hqf, or_bit.mpr (Or.inr rfl)⟩⟩ e
          have : setN E q q = E := q_ext (set_lt b1 (by omega) (by omega)) b1 fun i hi => by
            rw [img_set (by omega) (by omega) hi]
            by_cases ei : i = q
            · rw [if_pos ei, ei, hqf]
            · rw [if_neg ei]
          rw [this]; exact pE
        · rw [if_neg hc, if_neg hc] at e
          obtain ⟨d1, d2, d3, d4, d5⟩ := b4 hc
          have hne : q ≠ l := fun z => by rw [z, d5] at q3; cases q3
          have bE : setN E l q < 2097152 := set_lt b1 (by omega) (by omega)
          refine cr_pk h7 k (setN E l q) (U ||| 2 ^ q) (some (c + 1, f, q)) F ⟨bE, fun p hp hu => ?_, fun z => absurd z (by omega), fun _ => ⟨d1, hqn, ?_, ?_, or_bit.mpr (Or.inr rfl)⟩⟩ e
          · have := nu p hu
            rw [img_set (by omega) (by omega) hp]
            by_cases ep : p = l
            · rw [ep, d5] at this; cases this.1
            · rw [if_neg ep]; exact b2 p hp this.1
          · have : setN (setN E l q) q f = cmp (swpN l q) (setN E l f) := q_ext (set_lt bE (by omega) (by omega)) (cmp_lt _ _) fun i hi => by
              have hsw := (swp_pk h7 d2 hqn).2.1 i hi
              rw [img_cmp hi, img_set (by omega) (by omega) hi, img_set (by omega) (by omega) hi, img_set (by omega) (by omega) hsw, img_swp (by omega) (by omega) hi]
              by_cases e1 : i = q
              · rw [if_pos e1, if_pos e1, if_pos rfl]
              · rw [if_neg e1, if_neg e1]
                by_cases e2 : i = l
                · rw [if_pos e2, if_pos e2, if_neg hne, hqf]
                · rw [if_neg e2, if_neg e2, if_neg e2]
            rw [this]; exact (swp_pk h7 d2 hqn).cmp d3
          · rw [img_set (by omega) (by omega) (by omega), if_neg hne, hqf]
      · cases e
end QCycles
