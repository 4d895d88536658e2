/-! more of X3 as Nat functions -/
section QPerm2
def invN (x : Nat) : Nat → Nat
  | 0 => 0
  | i + 1 => invN x i ||| (i * 8 ^ imgN x i)
theorem q_inverseOf {x : Nat} (hx : x < 4294967296) {post : Int32 → Prop} (hp : post (nI (invN x 7))) : P_X3_inverseOf (nI x) post := by
  unfold P_X3_inverseOf
  have key : ∀ k i, i + k = 7 → L_X3_inverseOf_4 post (k + 1) (nI x) (nI (invN x i)) (nI i) := by
    intro k
    induction k with
    | zero =>
      intro i hi
      have hi : i = 7 := by omega
      subst hi
      show B_X3_inverseOf_4 _ _ _ _ _
      unfold B_X3_inverseOf_4
      exact br_t (by simp (disch := omega) only [fa_lit, nI_add, pk_mul, nI_ltI, nI_leI, nI_eq] <;> omega) hp
    | succ k ih =>
      intro i hi
      show B_X3_inverseOf_4 _ _ _ _ _
      unfold B_X3_inverseOf_4
      refine br_f (by simp (disch := omega) only [fa_lit, nI_add, pk_mul, nI_ltI, nI_leI, nI_eq] <;> omega) ?_
      refine q_imageOf hx (by omega) ?_
      have h2 := imgN_lt x i
      have h3 := q_pow8 (show imgN x i ≤ 7 by omega)
      have h4 : i * 8 ^ imgN x i < 4294967296 := by
        have : i * 8 ^ imgN x i ≤ 7 * 2097152 := Nat.mul_le_mul (by omega) h3
        omega
      rw [show (3 : Int32) * nI (imgN x i) = nI (3 * imgN x i) by rw [show (3 : Int32) = nI 3 from rfl, pk_mul], q_shl (by omega) (by rw [q_p8]; exact h4), q_p8, fa_or, nI_1]
      exact ih (i + 1) (by omega)
  exact ⟨8, key 7 0 rfl⟩
def diffN (x y : Nat) : Nat → Nat
  | 0 => 0
  | i + 1 => diffN x y i + if imgN x i = imgN y i then 0 else 1
theorem diffN_le (x y : Nat) : ∀ i, diffN x y i ≤ i
  | 0 => Nat.le_refl 0
  | i + 1 => by have := diffN_le x y i; simp only [diffN]; split <;> omega
theorem q_differences {x y : Nat} (hx : x < 4294967296) (hy : y < 4294967296) {post : Int32 → Prop} (hp : post (nI (diffN x y 7))) : P_X3_differences (nI x) (nI y) post := by
  unfold P_X3_differences
  have key : ∀ k i, i + k = 7 → L_X3_differences_4 post (k + 1) (nI x) (nI y) (nI (diffN x y i)) (nI i) := by
    intro k
    induction k with
    | zero =>
      intro i hi
      have hi : i = 7 := by omega
      subst hi
      show B_X3_differences_4 _ _ _ _ _ _
      unfold B_X3_differences_4
      exact br_t (by simp (disch := omega) only [fa_lit, nI_add, pk_mul, nI_ltI, nI_leI, nI_eq] <;> omega) hp
    | succ k ih =>
      intro i hi
      show B_X3_differences_4 _ _ _ _ _ _
      unfold B_X3_differences_4
      refine br_f (by simp (disch := omega) only [fa_lit, nI_add, pk_mul, nI_ltI, nI_leI, nI_eq] <;> omega) ?_
      refine q_imageOf hx (by omega) (q_imageOf hy (by omega) ?_)
      have h1 := imgN_lt x i
      have h2 := imgN_lt y i
      have hs := ih (i + 1) (by omega)
      unfold B_X3_differences_26
      simp only [diffN] at hs
      by_cases he : imgN x i = imgN y i
      · rw [if_pos he] at hs
        refine br_t (by rw [he]) ?_
        rw [nI_1]; exact hs
      · rw [if_neg he] at hs
        refine br_f (by simp (disch := omega) only [fa_lit, nI_add, pk_mul, nI_ltI, nI_leI, nI_eq] <;> omega) ?_
        rw [nI_1, nI_1]; exact hs
  exact ⟨8, key 7 0 rfl⟩
/-- how many steps come back to i, at the most 7 -/
def cycN (x i : Nat) : Nat → Nat → Nat → Nat
  | 0, _, len => len
  | k + 1, at_, len => if at_ = i then len else if 7 ≤ len then len else cycN x i k (imgN x at_) (len + 1)
theorem q_cycleOf {x i : Nat} (hx : x < 4294967296) (hi : i < 7) {post : Int32 → Prop} (hp : post (nI (cycN x i 7 (imgN x i) 1))) : P_X3_cycleOf (nI x) (nI i) post := by
  unfold P_X3_cycleOf
  refine q_imageOf hx (by omega) ⟨8, ?_⟩
  have key : ∀ k a len, a < 8 → len + k = 8 → 1 ≤ len → (post (nI (cycN x i k a len))) → L_X3_cycleOf_8 post (k + 1) (nI x) (nI i) (nI len) (nI a) := by
    intro k
    induction k with
    | zero =>
      intro a len ha hl h1 hp
      show B_X3_cycleOf_8 _ _ _ _ _ _
      unfold B_X3_cycleOf_8
      by_cases he : a = i
      · exact br_t (by rw [he]) hp
      · exact br_f (by simp (disch := omega) only [fa_lit, nI_add, pk_mul, nI_ltI, nI_leI, nI_eq] <;> omega) (br_t (by simp (disch := omega) only [fa_lit, nI_add, pk_mul, nI_ltI, nI_leI, nI_eq] <;> omega) hp)
    | succ k ih =>
      intro a len ha hl h1 hp
      show B_X3_cycleOf_8 _ _ _ _ _ _
      unfold B_X3_cycleOf_8
      simp only [cycN] at hp
      by_cases he : a = i
      · rw [if_pos he] at hp; exact br_t (by rw [he]) hp
      · rw [if_neg he] at hp
        refine br_f (by simp (disch := omega) only [fa_lit, nI_add, pk_mul, nI_ltI, nI_leI, nI_eq] <;> omega) ?_
        by_cases h7 : 7 ≤ len
        · rw [if_pos h7] at hp; exact br_t (by simp (disch := omega) only [fa_lit, nI_add, pk_mul, nI_ltI, nI_leI, nI_eq] <;> omega) hp
        · rw [if_neg h7] at hp
          refine br_f (by simp (disch := omega) only [fa_lit, nI_add, pk_mul, nI_ltI, nI_leI, nI_eq] <;> omega) ?_
          refine q_imageOf hx (by omega) ?_
          rw [nI_1]
          exact ih _ _ (imgN_lt _ _) (by omega) (by omega) hp
  exact key 7 _ 1 (imgN_lt _ _) rfl (by omega) hp
def ordN (x : Nat) : Nat → Nat → Nat → Nat
  | 0, t, _ => t
  | k + 1, t, pw => if pw = 1754760 then t else if 12 ≤ t then t else ordN x k (t + 1) (thenN pw x 7)
theorem q_orderOf {x : Nat} (hx : x < 2097152) {post : Int32 → Prop} (hp : post (nI (ordN x 12 1 x))) : P_X3_orderOf (nI x) post := by
  unfold P_X3_orderOf
  have key : ∀ k t pw, pw < 2097152 → t + k = 13 → 1 ≤ t → (post (nI (ordN x k t pw))) → L_X3_orderOf_4 post (k + 1) (nI x) (nI t) (nI pw) := by
    intro k
    induction k with
    | zero =>
      intro t pw hw hl h1 hp
      show B_X3_orderOf_4 _ _ _ _ _
      unfold B_X3_orderOf_4
      by_cases he : pw = 1754760
      · exact br_t (by rw [he]; rfl) hp
      · exact br_f (by simp (disch := omega) only [fa_lit, nI_add, pk_mul, nI_ltI, nI_leI, nI_eq] <;> omega) (br_t (by simp (disch := omega) only [fa_lit, nI_add, pk_mul, nI_ltI, nI_leI, nI_eq] <;> omega) hp)
    | succ k ih =>
      intro t pw hw hl h1 hp
      show B_X3_orderOf_4 _ _ _ _ _
      unfold B_X3_orderOf_4
      simp only [ordN] at hp
      by_cases he : pw = 1754760
      · rw [if_pos he] at hp; exact br_t (by rw [he]; rfl) hp
      · rw [if_neg he] at hp
        refine br_f (by simp (disch := omega) only [fa_lit, nI_add, pk_mul, nI_ltI, nI_leI, nI_eq] <;> omega) ?_
        by_cases h7 : 12 ≤ t
        · rw [if_pos h7] at hp; exact br_t (by simp (disch := omega) only [fa_lit, nI_add, pk_mul, nI_ltI, nI_leI, nI_eq] <;> omega) hp
        · rw [if_neg h7] at hp
          refine br_f (by simp (disch := omega) only [fa_lit, nI_add, pk_mul, nI_ltI, nI_leI, nI_eq] <;> omega) ?_
          refine q_then (by omega) (by omega) ?_
          rw [nI_1]
          exact ih _ _ (thenN_lt _ _ 7) (by omega) (by omega) hp
  exact ⟨13, key 12 1 x hx rfl (by omega) hp⟩
def popN (x : Nat) : Nat := x % 2 + x / 2 % 2 + x / 4 % 2 + x / 8 % 2 + x / 16 % 2 + x / 32 % 2 + x / 64 % 2
set_option maxRecDepth 100000 in
set_option maxHeartbeats 4000000 in
theorem q_pop_all : ∀ x : Fin 128, P_J6_bitCount_0f7a4 (nI x.val) (fun r => r = nI (popN x.val)) := by
  unfold P_J6_bitCount_0f7a4
  decide +kernel
theorem q_bitCount {x : Nat} (hx : x < 128) {post : Int32 → Prop} (hp : post (nI (popN x))) : P_J6_bitCount_0f7a4 (nI x) post := by
  have h := q_pop_all ⟨x, hx⟩
  unfold P_J6_bitCount_0f7a4 at h ⊢
  rw [h]; exact hp
/-- seen images, as bits -/
def seenN (x : Nat) : Nat → Nat
  | 0 => 0
  | i + 1 => seenN x i ||| 2 ^ imgN x i
theorem q_img7 {x : Nat} (h : ∀ i, i < 7 → imgN x i < 7) : ∀ i, i ≤ 7 → seenN x i < 128
  | 0, _ => by simp [seenN]
  | i + 1, hi => by
    have h1 := q_img7 h i (by omega)
    have h2 := h i (by omega)
    have h3 : 2 ^ imgN x i < 2 ^ 7 := Nat.pow_lt_pow_right (by omega) h2
    exact Nat.or_lt_two_pow (n := 7) h1 h3
theorem q_shl1 {k : Nat} (h : k < 31) : (1 : Int32) <<< (nI k &&& 31) = nI (2 ^ k) := by
  have := q_shl (n := 1) (k := k) (by omega) (by
    have : 2 ^ k < 2 ^ 31 := Nat.pow_lt_pow_right (by omega) h
    omega)
  rw [show (1 : Int32) = nI 1 from rfl, this, Nat.one_mul]
def invs (x : Nat) : Nat → Nat
  | 0 => 0
  | i + 1 => invs x i + popN (seenN x i / 2 ^ imgN x i)
theorem popN_le (x : Nat) : popN x ≤ 7 := by unfold popN; omega
theorem invs_le (x : Nat) : ∀ i, invs x i ≤ 7 * i
  | 0 => Nat.le_refl _
  | i + 1 => by have := invs_le x i; have := popN_le (seenN x i / 2 ^ imgN x i); simp only [invs]; omega
theorem q_div_lt {a b : Nat} (h : a < 128) : a / 2 ^ b < 128 := Nat.lt_of_le_of_lt (Nat.div_le_self _ _) h
theorem q_hasOddParity {x : Nat} (hx : x < 4294967296) (hm : ∀ i, i < 7 → imgN x i < 7) {post : Int32 → Prop} (hp : post (nI (invs x 7 % 2))) : P_X3_hasOddParity (nI x) post := by
  unfold P_X3_hasOddParity
  have key : ∀ k i, i + k = 7 → L_X3_hasOddParity_6 post (k + 1) (nI x) (nI (seenN x i)) (nI (invs x i)) (nI i) := by
    intro k
    induction k with
    | zero =>
      intro i hi
      have hi : i = 7 := by omega
      subst hi
      show B_X3_hasOddParity_6 _ _ _ _ _ _
      unfold B_X3_hasOddParity_6
      refine br_t (by simp (disch := omega) only [fa_lit, nI_add, pk_mul, nI_ltI, nI_leI, nI_eq] <;> omega) ?_
      have h1 := invs_le x 7
      rw [q_and1]
      rcases Nat.mod_two_eq_zero_or_one (invs x 7) with h | h
      · rw [h] at hp ⊢
        exact ⟨fun _ => hp, fun z => absurd z (by decide)⟩
      · rw [h] at hp ⊢
        exact ⟨fun z => absurd (show nI 1 = (1 : Int32) from rfl) z, fun _ => hp⟩
    | succ k ih =>
      intro i hi
      show B_X3_hasOddParity_6 _ _ _ _ _ _
      unfold B_X3_hasOddParity_6
      refine br_f (by simp (disch := omega) only [fa_lit, nI_add, pk_mul, nI_ltI, nI_leI, nI_eq] <;> omega) ?_
      refine q_imageOf hx (by omega) ?_
      have h2 := hm i (by omega)
      have h3 := q_img7 hm i (by omega)
      rw [q_ushr (by omega) (by omega)]
      refine q_bitCount (q_div_lt h3) ?_
      rw [q_shl1 (by omega), fa_or, nI_add, nI_1]
      exact ih (i + 1) (by omega)
  exact ⟨8, key 7 0 rfl⟩
def fctN : Nat → Nat
  | 0 => 1
  | i + 1 => fctN i * (i + 1)
def rnkN (x : Nat) : Nat → Nat
  | 0 => 0
  | i + 1 => rnkN x i + fctN i * popN (seenN x i / 2 ^ imgN x i)
theorem q_rankOf {x : Nat} (hx : x < 4294967296) (hm : ∀ i, i < 7 → imgN x i < 7) {post : Int32 → Prop} (hp : post (nI (rnkN x 7))) : P_X3_rankOf (nI x) post := by
  unfold P_X3_rankOf
  have key : ∀ k i, i + k = 7 → L_X3_rankOf_9 post (k + 1) (nI x) (nI (seenN x i)) (nI (rnkN x i)) (nI (fctN i)) (nI i) := by
    intro k
    induction k with
    | zero =>
      intro i hi
      have hi : i = 7 := by omega
      subst hi
      show B_X3_rankOf_9 _ _ _ _ _ _ _
      unfold B_X3_rankOf_9
      exact br_t (by simp (disch := omega) only [fa_lit, nI_add, pk_mul, nI_ltI, nI_leI, nI_eq] <;> omega) hp
    | succ k ih =>
      intro i hi
      show B_X3_rankOf_9 _ _ _ _ _ _ _
      unfold B_X3_rankOf_9
      refine br_f (by simp (disch := omega) only [fa_lit, nI_add, pk_mul, nI_ltI, nI_leI, nI_eq] <;> omega) ?_
      refine q_imageOf hx (by omega) ?_
      have h2 := hm i (by omega)
      have h3 := q_img7 hm i (by omega)
      rw [q_ushr (by omega) (by omega)]
      refine q_bitCount (q_div_lt h3) ?_
      rw [q_shl1 (by omega), fa_or, pk_mul, nI_add, nI_1, pk_mul]
      exact ih (i + 1) (by omega)
  exact ⟨8, key 7 0 rfl⟩
end QPerm2
