/-! the model's rows of tokens -/
section QRows
/-- cell a holds the row of tokens y -/
def rowM (a n y : Nat) (σ : Dz) : Prop := ∀ p, p < n → gz_i σ a (p + 1) = nI (imgN y p + 1)
theorem m_numberOf {n y a : Nat} {σ : Dz} (hn : gz_i σ 43 1 = nI n) (h7 : n ≤ 7) (r : rowM a n y σ) {post : Int32 → Prop} (hp : post (nI (numN n y))) : P_X10_numberOf σ a 8 post := by
  unfold P_X10_numberOf
  have key : ∀ k p, p + k = n → L_X10_numberOf_4 σ a 8 post (k + 1) (nI (numK n y p)) (nI (p + 1)) := by
    intro k
    induction k with
    | zero =>
      intro p hp2
      show B_X10_numberOf_4 _ _ _ _ _ _ _
      unfold B_X10_numberOf_4
      rw [hn]
      have : p = n := by omega
      subst this
      exact br_t (by simp (disch := omega) only [fa_lit, nI_add, pk_mul, nI_ltI, nI_leI, nI_eq] <;> omega) hp
    | succ k ih =>
      intro p hp2
      show B_X10_numberOf_4 _ _ _ _ _ _ _
      unfold B_X10_numberOf_4
      rw [hn]
      have key2 : ∀ m q, p + 1 + q + m = n → L_X10_numberOf_20 σ a 8 post (L_X10_numberOf_4 σ a 8 post (k + 1)) (m + 1) (nI (numK n y p)) (nI (p + 1)) (nI (lessN y p q)) (nI (p + 1 + q + 1)) := by
        intro m
        induction m with
        | zero =>
          intro q hq
          show B_X10_numberOf_20 _ _ _ _ _ _ _ _ _ _
          unfold B_X10_numberOf_20
          rw [hn]
          refine br_t (by simp (disch := omega) only [fa_lit, nI_add, pk_mul, nI_ltI, nI_leI, nI_eq] <;> omega) ?_
          rw [pk_sub (by omega), nI_1, pk_mul, nI_add, nI_1, show n - (p + 1) + 1 = n - p by omega]
          have := ih (p + 1) (by omega)
          rw [show q = n - p - 1 by omega]
          exact this
        | succ m ih2 =>
          intro q hq
          show B_X10_numberOf_20 _ _ _ _ _ _ _ _ _ _
          unfold B_X10_numberOf_20 B_X10_numberOf_46
          rw [hn, nI_clamp (show p + 1 < 2 ^ 31 by omega), nI_clamp (show p + 1 + q + 1 < 2 ^ 31 by omega), r p (by omega), r (p + 1 + q) (by omega)]
          have b1 := imgN_lt y p
          have b2 := imgN_lt y (p + 1 + q)
          have nx := ih2 (q + 1) (by omega)
          refine br_f (by simp (disch := omega) only [fa_lit, nI_add, pk_mul, nI_ltI, nI_leI, nI_eq] <;> omega) ⟨vp_in_nI (by omega) (by omega), vp_in_nI (by omega) (by omega), ?_⟩
          by_cases hh : imgN y (p + 1 + q) < imgN y p
          · refine br_f (by simp (disch := omega) only [fa_lit, nI_add, pk_mul, nI_ltI, nI_leI, nI_eq] <;> omega) ?_
            rw [lessN, if_pos hh] at nx
            rw [nI_1, nI_1]; exact nx
          · refine br_t (by simp (disch := omega) only [fa_lit, nI_add, pk_mul, nI_ltI, nI_leI, nI_eq] <;> omega) ?_
            rw [lessN, if_neg hh] at nx
            rw [nI_1, show (0 : Int32) = nI 0 from rfl, nI_add]; exact nx
      refine br_f (by simp (disch := omega) only [fa_lit, nI_add, pk_mul, nI_ltI, nI_leI, nI_eq] <;> omega) ⟨n - p - 1 + 1, ?_⟩
      have := key2 (n - p - 1) 0 (by omega)
      rw [nI_1]
      exact this
  exact ⟨n + 1, key n 0 (by omega)⟩
def pkM (y : Nat) : Nat → Nat
  | 0 => 0
  | k + 1 => pkM y k + (imgN y k + 1) * 8 ^ (k + 1)
theorem pkM_lt {y : Nat} (hy : ∀ i, i < 7 → imgN y i < 7) : ∀ k, k ≤ 7 → pkM y k < 8 ^ (k + 1)
  | 0, _ => by show 0 < 8 ^ (0 + 1); decide
  | k + 1, h => by
    have h1 := pkM_lt hy k (by omega)
    have h2 := hy k (by omega)
    have h3 : (imgN y k + 1) * 8 ^ (k + 1) ≤ 7 * 8 ^ (k + 1) := Nat.mul_le_mul_right _ (by omega)
    have h4 : 8 ^ (k + 1 + 1) = 8 ^ (k + 1) * 8 := Nat.pow_succ ..
    show pkM y k + (imgN y k + 1) * 8 ^ (k + 1) < 8 ^ (k + 1 + 1)
    omega
theorem pkM_dig {y : Nat} (hy : ∀ i, i < 7 → imgN y i < 7) : ∀ k, k ≤ 7 → ∀ p, p < k → pkM y k / 8 ^ (p + 1) % 8 = imgN y p + 1
  | 0, _, p, hp => absurd hp (Nat.not_lt_zero p)
  | k + 1, h, p, hp => by
    show (pkM y k + (imgN y k + 1) * 8 ^ (k + 1)) / 8 ^ (p + 1) % 8 = _
    by_cases e : p < k
    · rw [q_dig (by omega)]; exact pkM_dig hy k (by omega) p e
    · have : p = k := by omega
      subst this
      exact q_dig_top (pkM_lt hy p (by omega)) (by have := hy p (by omega); omega)
theorem q_pow8' {i : Nat} (h : i ≤ 8) : 8 ^ i ≤ 16777216 := Nat.le_trans (Nat.pow_le_pow_right (by omega) h) (by decide)
theorem m_packed {n y a : Nat} {σ : Dz} (hn : gz_i σ 43 1 = nI n) (h7 : n ≤ 7) (hy : ∀ i, i < 7 → imgN y i < 7) (r : rowM a n y σ) {post : Int32 → Prop} (hp : post (nI (pkM y n))) : P_X10_packed σ a 8 post := by
  unfold P_X10_packed
  have key : ∀ k p, p + k = n → L_X10_packed_4 σ a 8 post (k + 1) (nI (pkM y p)) (nI (p + 1)) := by
    intro k
    induction k with
    | zero =>
      intro p hp2
      show B_X10_packed_4 _ _ _ _ _ _ _
      unfold B_X10_packed_4
      rw [hn]
      have : p = n := by omega
      subst this
      exact br_t (by simp (disch := omega) only [fa_lit, nI_add, pk_mul, nI_ltI, nI_leI, nI_eq] <;> omega) hp
    | succ k ih =>
      intro p hp2
      show B_X10_packed_4 _ _ _ _ _ _ _
      unfold B_X10_packed_4
      rw [hn, nI_clamp (by omega), r p (by omega)]
      refine br_f (by simp (disch := omega) only [fa_lit, nI_add, pk_mul, nI_ltI, nI_leI, nI_eq] <;> omega) ⟨vp_in_nI (by omega) (by omega), ?_⟩
      have h1 := pkM_lt hy p (by omega)
      have h2 := hy p (by omega)
      have h3 := q_pow8 (show p + 1 ≤ 7 by omega)
      have h4 : (imgN y p + 1) * 8 ^ (p + 1) < 4294967296 := by
        have : (imgN y p + 1) * 8 ^ (p + 1) ≤ 7 * 2097152 := Nat.mul_le_mul (by omega) h3
        omega
      have e : nI (pkM y p) ||| nI (imgN y p + 1) <<< (3 * nI (p + 1) &&& 31) = nI (pkM y (p + 1)) := by
        rw [show (3 : Int32) * nI (p + 1) = nI (3 * (p + 1)) by rw [show (3 : Int32) = nI 3 from rfl, pk_mul], q_shl (by omega) (by rw [q_p8]; exact h4), q_p8]
        have := fa_or_sum (a := pkM y p) (k := 3 * (p + 1)) (imgN y p + 1) (by rw [q_p8]; exact h1)
        rw [q_p8] at this
        rw [Nat.mul_comm (imgN y p + 1), fa_or, Nat.or_comm, ← fa_or, this]
        show nI _ = nI (pkM y p + _)
        rw [Nat.add_comm, Nat.mul_comm]
      rw [e, nI_1]
      exact ih (p + 1) (by omega)
  exact ⟨n + 1, key n 0 (by omega)⟩
theorem m_unpacks {n y : Nat} {σ : Dz} (hn : gz_i σ 43 1 = nI n) (h7 : n ≤ 7) (hy : ∀ i, i < 7 → imgN y i < 7) {post : Dz → Prop} (hp : ∀ σ', eqO 63 64 σ σ' → rowM 63 n y σ' → post σ') : P_X10_unpacks σ (nI (pkM y n)) post := by
  unfold P_X10_unpacks
  have hv : pkM y n < 16777216 := Nat.lt_of_lt_of_le (pkM_lt hy n h7) (q_pow8' (by omega))
  have key : ∀ k p τ, p + k = n → eqO 63 64 σ τ → rowM 63 p y τ → L_X10_unpacks_2 post (k + 1) τ (nI (pkM y n)) (nI (p + 1)) := by
    intro k
    induction k with
    | zero =>
      intro p τ hp2 e r
      show B_X10_unpacks_2 _ _ _ _ _
      unfold B_X10_unpacks_2
      rw [e.i (by omega), hn]
      have : p = n := by omega
      subst this
      exact br_t (by simp (disch := omega) only [fa_lit, nI_add, pk_mul, nI_ltI, nI_leI, nI_eq] <;> omega) (hp τ e r)
    | succ k ih =>
      intro p τ hp2 e r
      show B_X10_unpacks_2 _ _ _ _ _
      unfold B_X10_unpacks_2
      rw [e.i (by omega), hn, nI_clamp (by omega)]
      refine br_f (by simp (disch := omega) only [fa_lit, nI_add, pk_mul, nI_ltI, nI_leI, nI_eq] <;> omega) ⟨vp_in_nI (by omega) (by omega), ?_⟩
      rw [show (3 : Int32) * nI (p + 1) = nI (3 * (p + 1)) by rw [show (3 : Int32) = nI 3 from rfl, pk_mul], pk_shrN (by omega) (nI (3 * (p + 1)) &&& 31) (3 * (p + 1)) (s_l _ (by omega)), q_and7, q_p8, pkM_dig hy n h7 p (by omega), nI_1]
      refine ih (p + 1) _ (by omega) (e.si (by omega) (by omega) _ _) fun q hq => ?_
      by_cases hq2 : q = p
      · rw [hq2, gi_same]
      · rw [gi_pl (by omega)]; exact r q (by omega)
  exact ⟨n + 1, key n 0 σ (by omega) (eo_r _ _ _) (fun q hq => absurd hq (Nat.not_lt_zero q))⟩
theorem img_iv_cmp {n x e q : Nat} (hx : isPk n x) (he : isPk n e) (hq : q < 7) : imgN (ivN (cmp x e)) q = imgN (ivN x) (imgN (ivN e) q) := by
  have h1 := iv_all he hq
  have h2 := iv_all hx h1.2.2
  refine iv_of (hx.cmp he) h2.2.2 ?_
  rw [img_cmp h2.2.2, h2.2.1, h1.2.1]
theorem m_moves {n : Nat} {S : Sit} (o : okSit n S) {σ : Dz} (hn : gz_i σ 43 1 = nI n) (h7 : n ≤ 7) (ms : MSit 44 n S σ) {x l : Nat} (hx : isPk n x) (hl : l < 10) (hd : S.df (l / 2) = true) (r : rowM 63 n (ivN x) σ) {post : Dz → Prop} (hp : ∀ σ', eqO 64 65 σ σ' → rowM 64 n (ivN (cmp x (S.ef l))) σ' → post σ') : P_X10_moves σ (nI l) post := by
  unfold P_X10_moves
  have pe := o.pk l hl
  have key : ∀ k p τ, p + k = n → eqO 64 65 σ τ → (∀ q, q < p → gz_i τ 64 (imgN (S.ef l) q + 1) = nI (imgN (ivN x) q + 1)) → L_X10_moves_2 post (k + 1) τ (nI l) (nI (p + 1)) := by
    intro k
    induction k with
    | zero =>
      intro p τ hp2 e rr
      show B_X10_moves_2 _ _ _ _ _
      unfold B_X10_moves_2
      rw [e.i (by omega), hn]
      have : p = n := by omega
      subst this
      refine br_t (by simp (disch := omega) only [fa_lit, nI_add, pk_mul, nI_ltI, nI_leI, nI_eq] <;> omega) (hp τ e fun q hq => ?_)
      have a1 := iv_all pe (show q < 7 by omega)
      have := rr (imgN (ivN (S.ef l)) q) (pe.iv.lt h7 hq)
      rw [a1.2.1] at this
      rw [this, img_iv_cmp hx pe (by omega)]
    | succ k ih =>
      intro p τ hp2 e rr
      show B_X10_moves_2 _ _ _ _ _
      unfold B_X10_moves_2
      rw [show (8 : Int32) * nI l + nI (p + 1) = nI (8 * l + (p + 1)) by rw [show (8 : Int32) = nI 8 from rfl, pk_mul, nI_add], e.i (k := 43) (by omega), e.i (k := 46) (by omega), e.i (k := 63) (by omega), hn, nI_clamp (show 8 * l + (p + 1) < 2 ^ 31 by omega), nI_clamp (show p + 1 < 2 ^ 31 by omega), show gz_i σ 46 (8 * l + (p + 1)) = nI (imgN (S.ef l) p + 1) from ms.ef l hl hd p (by omega), r p (by omega)]
      have b1 := pe.2.1 p (by omega)
      refine br_f (by simp (disch := omega) only [fa_lit, nI_add, pk_mul, nI_ltI, nI_leI, nI_eq] <;> omega) ⟨vp_in_nI (by omega) (by omega), vp_in_nI (by omega) (by omega), vp_in_nI (by omega) (by omega), ?_⟩
      rw [nI_clamp (by omega), nI_1]
      refine ih (p + 1) _ (by omega) (e.si (by omega) (by omega) _ _) fun q hq => ?_
      by_cases hq2 : q = p
      · rw [hq2, gi_same]
      · rw [gi_pl (fun z => hq2 (pe.2.2.1 q p (by omega) (by omega) (by omega)))]; exact rr q (by omega)
  exact ⟨n + 1, key n 0 σ (by omega) (eo_r _ _ _) (fun q hq => absurd hq (Nat.not_lt_zero q))⟩
end QRows
