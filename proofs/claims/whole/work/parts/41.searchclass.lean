/-! the search: the class -/
section QSearchC
def stN (c m : Nat) : Nat := if m = 1 then 0 else if m = 2 then c else c + c * c
theorem q_startOf {c m : Nat} {σ : Dz} (h : gz_i σ 9 2 = nI c) (hm : m < 100) {post : Int32 → Prop} (hp : post (nI (stN c m))) : P_X0_startOf σ (nI m) post := by
  unfold P_X0_startOf
  rw [h]
  unfold stN at hp
  by_cases h1 : m = 1
  · rw [if_pos h1] at hp
    exact bn_t (by rw [h1]; rfl) hp
  · rw [if_neg h1] at hp
    refine bn_f (by simp (disch := omega) only [fa_lit, nI_add, pk_mul, nI_ltI, nI_leI, nI_eq] <;> omega) ?_
    by_cases h2 : m = 2
    · rw [if_pos h2] at hp
      exact bn_t (by rw [h2]; rfl) hp
    · rw [if_neg h2] at hp
      refine bn_f (by simp (disch := omega) only [fa_lit, nI_add, pk_mul, nI_ltI, nI_leI, nI_eq] <;> omega) ?_
      rw [pk_mul, nI_add]; exact hp
theorem st_len (df : Nat → Bool) {m : Nat} (hm : m = 1 ∨ m = 2) : stN (lets df).length (m + 1) = stN (lets df).length m + (WL df m).length := by
  rcases hm with rfl | rfl
  · rw [WL_1]; show (lets df).length = 0 + (lets df).length; omega
  · rw [WL_2]; rfl
theorem WL_len (df : Nat → Bool) {m : Nat} (hm : m = 1 ∨ m = 2) : stN (lets df).length m + (WL df m).length ≤ 110 := by
  have hl := lets_le df
  have h3 : (lets df).length * (lets df).length ≤ 10 * 10 := Nat.mul_le_mul hl hl
  rcases hm with rfl | rfl
  · rw [WL_1]; show 0 + (lets df).length ≤ 110; omega
  · rw [WL_2]; show (lets df).length + _ ≤ 110; omega
/-- the letters of the i-th word -/
theorem WL_at (df : Nat → Bool) {i : Nat} (hi : i < (WL df 2).length) : i / (lets df).length < (lets df).length ∧ i % (lets df).length < (lets df).length ∧ (WL df 2).getD i 0 / 10 = (lets df).getD (i / (lets df).length) 0 ∧ (WL df 2).getD i 0 % 10 = (lets df).getD (i % (lets df).length) 0 := by
  have h2 := WL_2 df
  have h3 := WL_3 df hi
  have hc : 0 < (lets df).length := by
    rcases Nat.eq_zero_or_pos (lets df).length with h | h
    · rw [h2, h] at hi; omega
    · exact h
  have a1 : i / (lets df).length < (lets df).length := Nat.div_lt_of_lt_mul (by omega)
  have a2 := Nat.mod_lt i hc
  have b2 := (lets_ok df a2).1
  refine ⟨a1, a2, ?_, ?_⟩ <;> omega
theorem SR.eff {S : Sit} {σ : Dz} (h : SR S σ) {m i : Nat} (hm : m = 1 ∨ m = 2) (hi : i < (WL S.df m).length) : gz_i σ 11 (stN (lets S.df).length m + i) = nI (efS S.ef m ((WL S.df m).getD i 0)) := by
  rcases hm with rfl | rfl
  · rw [WL_1] at hi ⊢
    show gz_i σ 11 (0 + i) = nI (S.ef _)
    rw [Nat.zero_add]; exact h.2.2.1 i hi
  · obtain ⟨a1, a2, a3, a4⟩ := WL_at S.df hi
    have := h.2.2.2 _ _ a1 a2
    rw [show (lets S.df).length + (lets S.df).length * (i / (lets S.df).length) + i % (lets S.df).length = (lets S.df).length + i by have := Nat.div_add_mod i (lets S.df).length; omega] at this
    show gz_i σ 11 ((lets S.df).length + i) = nI (cmp _ _)
    rw [this, a3, a4]
theorem WL_ok (df : Nat → Bool) {m i : Nat} (hm : m = 1 ∨ m = 2) (hi : i < (WL df m).length) : (m = 1 → okL df ((WL df m).getD i 0)) ∧ (m = 2 → okL df ((WL df m).getD i 0 / 10) ∧ okL df ((WL df m).getD i 0 % 10)) := by
  rcases hm with rfl | rfl
  · rw [WL_1] at hi ⊢
    exact ⟨fun _ => lets_ok df hi, fun h => absurd h (by decide)⟩
  · obtain ⟨a1, a2, a3, a4⟩ := WL_at df hi
    exact ⟨fun h => absurd h (by decide), fun _ => by rw [a3, a4]; exact ⟨lets_ok df a1, lets_ok df a2⟩⟩
theorem efS_pk {n : Nat} {S : Sit} (o : okSit n S) {m u : Nat} (hm : m = 1 ∨ m = 2) (hu : (m = 1 → okL S.df u) ∧ (m = 2 → okL S.df (u / 10) ∧ okL S.df (u % 10))) : isPk n (efS S.ef m u) := by
  rcases hm with rfl | rfl
  · exact o.pk u (hu.1 rfl).1
  · exact (o.pk _ (hu.2 rfl).1.1).cmp (o.pk _ (hu.2 rfl).2.1)
theorem q_findAmong {A : Abs} (o : okA A) {σ : Dz} (h : SR A.S σ) {m k : Nat} (hm : m = 1 ∨ m = 2) (hk : k = 1 ∨ k = 2) {y2 : Int32} {post : Int32 → Dz → Prop} (h0 : fnd (tst A.S y2 m k) (WL A.S.df k) (WL A.S.df m) = none → post 0 σ) (h1 : ∀ u v, fnd (tst A.S y2 m k) (WL A.S.df k) (WL A.S.df m) = some (u, v) → ∀ i j, i < (WL A.S.df m).length → (WL A.S.df m).getD i 0 = u → j < (WL A.S.df k).length → (WL A.S.df k).getD j 0 = v → post 1 (sz_i (sz_i σ 9 3 (nI (stN (lets A.S.df).length m + i))) 9 4 (nI (stN (lets A.S.df).length k + j)))) : P_X0_findAmong σ (nI m) (nI k) y2 post := by
  unfold P_X0_findAmong
  have lm := WL_len A.S.df hm
  have lk := WL_len A.S.df hk
  have sm := st_len A.S.df hm
  have sk := st_len A.S.df hk
  refine q_startOf h.1 (by omega) ?_
  have key : ∀ q i, i + q = (WL A.S.df m).length → (fnd (tst A.S y2 m k) (WL A.S.df k) ((WL A.S.df m).drop i) = none → post 0 σ) → (∀ u v, fnd (tst A.S y2 m k) (WL A.S.df k) ((WL A.S.df m).drop i) = some (u, v) → ∀ i j, i < (WL A.S.df m).length → (WL A.S.df m).getD i 0 = u → j < (WL A.S.df k).length → (WL A.S.df k).getD j 0 = v → post 1 (sz_i (sz_i σ 9 3 (nI (stN (lets A.S.df).length m + i))) 9 4 (nI (stN (lets A.S.df).length k + j)))) → L_X0_findAmong_7 post (q + 1) σ (nI m) (nI k) y2 (nI (stN (lets A.S.df).length m + i)) := by
    intro q
    induction q with
    | zero =>
      intro i hi g0 g1
      show B_X0_findAmong_7 _ _ _ _ _ _ _
      unfold B_X0_findAmong_7
      rw [nI_1]
      refine q_startOf h.1 (by omega) (br_t ?_ (g0 ?_))
      · rw [sm]; simp (disch := omega) only [fa_lit, nI_add, pk_mul, nI_ltI, nI_leI, nI_eq]; omega
      · rw [List.drop_of_length_le (by omega)]; rfl
    | succ q ih =>
      intro i hi g0 g1
      show B_X0_findAmong_7 _ _ _ _ _ _ _
      unfold B_X0_findAmong_7
      rw [nI_1]
      rw [drop_getD _ i (by omega), fnd] at g0 g1
      refine q_startOf h.1 (by omega) (br_f ?_ (q_startOf h.1 (by omega) ?_))
      · rw [sm]; simp (disch := omega) only [fa_lit, nI_add, pk_mul, nI_ltI, nI_leI, nI_eq]; omega
      · have ku := efS_pk o.S hm (WL_ok A.S.df hm (show i < _ by omega))
        have inner : ∀ r j, j + r = (WL A.S.df k).length → (((WL A.S.df k).drop j).find? (tst A.S y2 m k ((WL A.S.df m).getD i 0)) = (WL A.S.df k).find? (tst A.S y2 m k ((WL A.S.df m).getD i 0))) → L_X0_findAmong_26 post (L_X0_findAmong_7 post (q + 1)) (r + 1) σ (nI m) (nI k) y2 (nI (stN (lets A.S.df).length m + i)) (nI (stN (lets A.S.df).length k + j)) := by
          intro r
          induction r with
          | zero =>
            intro j hj hf
            show B_X0_findAmong_26 _ _ _ _ _ _ _ _ _
            unfold B_X0_findAmong_26
            rw [nI_1 k]
            refine q_startOf h.1 (by omega) (br_t ?_ ?_)
            · rw [sk]; simp (disch := omega) only [fa_lit, nI_add, pk_mul, nI_ltI, nI_leI, nI_eq]; omega
            · rw [List.drop_of_length_le (by omega)] at hf
              have hf : (WL A.S.df k).find? (tst A.S y2 m k ((WL A.S.df m).getD i 0)) = none := hf.symm
              rw [hf] at g0 g1
              rw [nI_1]
              exact ih (i + 1) (by omega) g0 g1
          | succ r ih2 =>
            intro j hj hf
            show B_X0_findAmong_26 _ _ _ _ _ _ _ _ _
            unfold B_X0_findAmong_26
            rw [nI_1 k]
            refine q_startOf h.1 (by omega) (br_f ?_ ?_)
            · rw [sk]; simp (disch := omega) only [fa_lit, nI_add, pk_mul, nI_ltI, nI_leI, nI_eq]; omega
            · have kv := efS_pk o.S hk (WL_ok A.S.df hk (show j < _ by omega))
              rw [nI_clamp (by omega), nI_clamp (by omega), h.eff hm (by omega), h.eff hk (by omega)]
              refine ⟨vp_in_nI (by omega) (by omega), vp_in_nI (by omega) (by omega), q_movedBy ku.1 kv.1 ?_⟩
              rw [drop_getD _ j (by omega), List.find?_cons] at hf
              by_cases ht : nI (mvC (efS A.S.ef m ((WL A.S.df m).getD i 0)) (efS A.S.ef k ((WL A.S.df k).getD j 0)) 7) = y2
              · rw [show tst A.S y2 m k ((WL A.S.df m).getD i 0) ((WL A.S.df k).getD j 0) = true from decide_eq_true ht] at hf
                refine bn_t ht ?_
                rw [← hf] at g1
                exact g1 _ _ rfl i j (by omega) rfl (by omega) rfl
              · rw [show tst A.S y2 m k ((WL A.S.df m).getD i 0) ((WL A.S.df k).getD j 0) = false from decide_eq_false ht] at hf
                refine bn_f ht ?_
                rw [nI_1]
                exact ih2 (j + 1) (by omega) hf
        exact ⟨(WL A.S.df k).length + 1, inner (WL A.S.df k).length 0 (by omega) rfl⟩
  exact ⟨(WL A.S.df m).length + 1, key (WL A.S.df m).length 0 (by omega) h0 h1⟩
def wdF (m u : Nat) : Nat → Nat := fun i => if m = 1 then u else if i = 0 then u / 10 else u % 10
def bwF (m u : Nat) : Nat → Nat := fun i => wdF m u (m - 1 - i) ^^^ 1
theorem q_writeWord {A : Abs} {σ : Dz} (h : SR A.S σ) {m i l : Nat} {d : Nat → Nat} (hm : m = 1 ∨ m = 2) (hi : i < (WL A.S.df m).length) (w : isWd 39 l d σ) (hl : l ≤ 100) {post : Dz → Prop} (hp : ∀ σ', eqO 39 41 σ σ' → isWd 39 (l + m) (catD d l (wdF m ((WL A.S.df m).getD i 0))) σ' → post σ') : P_X0_writeWord σ 39 (nI (stN (lets A.S.df).length m + i)) post := by
  unfold P_X0_writeWord
  have hc := lets_le A.S.df
  have lm := WL_len A.S.df hm
  rcases hm with rfl | rfl
  · rw [WL_1] at hi hp
    rw [h.1, show stN (lets A.S.df).length 1 + i = i from Nat.zero_add i]
    refine br_f (qn_lt (by omega)) (br_f (by simp (disch := omega) only [fa_lit, nI_add, pk_mul, nI_ltI, nI_leI, nI_eq] <;> omega) ⟨vp_in_nI (by omega) (by omega), ?_⟩)
    rw [nI_clamp (by omega), h.2.1 i hi]
    exact q_add w _ (fun _ σ' e w2 => hp σ' e w2) (fun z => absurd z (by omega))
  · obtain ⟨a1, a2, a3, a4⟩ := WL_at A.S.df hi
    have h2 := WL_2 A.S.df
    have est : stN (lets A.S.df).length 2 = (lets A.S.df).length := rfl
    rw [h.1, est]
    rw [est] at lm
    have c0 : 0 < (lets A.S.df).length := by omega
    refine br_f (qn_lt (by omega)) (br_t (by simp (disch := omega) only [fa_lit, nI_add, pk_mul, nI_ltI, nI_leI, nI_eq] <;> omega) ?_)
    unfold B_X0_writeWord_26
    rw [h.1]
    refine br_f (by simp (disch := omega) only [fa_lit, nI_add, pk_mul, nI_ltI, nI_leI, nI_eq] <;> omega) (br_f (by simp (disch := omega) only [fa_lit, nI_add, pk_mul, nI_ltI, nI_leI, nI_eq] <;> omega) (q_startOf (m := 3) h.1 (by omega) (br_f ?_ ⟨(by simp (disch := omega) only [fa_lit, nI_add, pk_mul, nI_ltI, nI_leI, nI_eq] <;> omega), ?_⟩)))
    · show ¬ nI ((lets A.S.df).length + (lets A.S.df).length * (lets A.S.df).length) ≤ _
      simp (disch := omega) only [fa_lit, nI_add, pk_mul, nI_ltI, nI_leI, nI_eq]; omega
    · rw [pk_sub (by omega), show (lets A.S.df).length + i - (lets A.S.df).length = i by omega, pk_div (by omega) c0 (by omega), nI_clamp (by omega), h.2.1 _ a1]
      refine ⟨vp_in_nI (by omega) (by omega), q_add w _ (fun _ σ1 e1 w1 => ?_) (fun z => absurd z (by omega))⟩
      rw [e1.i (by omega), h.1, pk_rem (by omega) c0 (by omega), nI_clamp (by omega), e1.i (by omega), h.2.1 _ a2]
      refine ⟨(by simp (disch := omega) only [fa_lit, nI_add, pk_mul, nI_ltI, nI_leI, nI_eq] <;> omega), vp_in_nI (by omega) (by omega), q_add w1 _ (fun _ σ2 e2 w2 => hp σ2 (e1.tr e2) (w2.cong fun j hj => ?_)) (fun z => absurd z (by omega))⟩
      unfold wdF
      by_cases j1 : j < l
      · rw [catD_0 _ _ _ (by omega), catD_0 _ _ _ j1, catD_0 _ _ _ j1]
      · by_cases j2 : j = l
        · subst j2
          rw [catD_0 _ _ _ (by omega), catD_1 _ _ _ (Nat.le_refl _), catD_1 _ _ _ (Nat.le_refl _), if_neg (by decide), if_pos (by omega), a3]
        · rw [catD_1 _ _ _ (by omega), catD_1 _ _ _ (by omega), if_neg (by decide), if_neg (by omega), a4]
def cmD (m u k v : Nat) : Nat → Nat := catD (catD (catD (catD (fun _ => 0) 0 (wdF m u)) (0 + m) (wdF k v)) (0 + m + k) (bwF m u)) (0 + m + k + m) (bwF k v)
theorem q_writeAll {A : Abs} {σ : Dz} (h : SR A.S σ) {m k i j : Nat} (hm : m = 1 ∨ m = 2) (hk : k = 1 ∨ k = 2) (hi : i < (WL A.S.df m).length) (hj : j < (WL A.S.df k).length) (g3 : gz_i σ 9 3 = nI (stN (lets A.S.df).length m + i)) (g4 : gz_i σ 9 4 = nI (stN (lets A.S.df).length k + j)) {post : Int32 → Dz → Prop} (hp : ∀ σ', eqO 39 41 σ σ' → isWd 39 (0 + m + k + m + k) (cmD m ((WL A.S.df m).getD i 0) k ((WL A.S.df k).getD j 0)) σ' → post 1 σ') : B_X0_find_57 17 39 post σ := by
  unfold B_X0_find_57 B_X0_find_62
  have keepS : ∀ τ, eqO 39 41 σ τ → SR A.S τ := fun τ e => ⟨by rw [e.i (by omega)]; exact h.1, fun i hi => by rw [e.i (by omega)]; exact h.2.1 i hi, fun i hi => by rw [e.i (by omega)]; exact h.2.2.1 i hi, fun i j hi hj => by rw [e.i (by omega)]; exact h.2.2.2 i j hi hj⟩
  refine br_f (by decide) (c_clear39 (A := A) fun σ1 e1 w1 => ?_)
  rw [e1.i (by omega), g3]
  refine q_writeWord (keepS σ1 e1) hm hi (w1 (fun _ => 0)) (by omega) fun σ2 e2 w2 => ?_
  show P_X0_writeWord σ2 39 _ _
  have e12 := e1.tr e2
  rw [e12.i (by omega), g4]
  refine q_writeWord (keepS σ2 e12) hk hj w2 (by omega) fun σ3 e3 w3 => ?_
  rw [w2.1]
  unfold P_X6_closeCommutator
  rw [w3.1]
  generalize hu : (WL A.S.df m).getD i 0 = u at *
  generalize hv : (WL A.S.df k).getD j 0 = v at *
  refine q_addInv (w := 39) (w1 := 39) (a := 0) (m := m) (g := wdF m u) w3 (by omega) (fun σ' l' d' _ w' hl hd q hq post hpp => ?_) (fun _ σ4 e4 w4 => ?_) (fun z => absurd z (by omega))
  · rw [Nat.zero_add]
    refine q_at w' (by omega) ?_
    rw [hd q (by omega), catD_0 _ _ _ (by omega), catD_1 _ _ _ (by omega)]; exact hpp
  · refine br_f (by decide) (q_addInv (w := 39) (w1 := 39) (a := 0 + m) (m := k) (g := wdF k v) w4 (by omega) (fun σ' l' d' _ w' hl hd q hq post hpp => ?_) (fun _ σ5 e5 w5 => ?_) (fun z => absurd z (by omega)))
    · refine q_at w' (by omega) ?_
      rw [hd _ (by omega), catD_0 _ _ _ (by omega), catD_1 _ _ _ (by omega), show 0 + m + q - (0 + m) = q by omega]; exact hpp
    · exact br_f (by decide) ⟨Or.inr rfl, hp σ5 (((e12.tr e3).tr e4).tr e5) w5⟩
end QSearchC
