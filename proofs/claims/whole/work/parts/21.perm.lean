/-! permutations of 7 places packed in one int: what the methods of X3 answer, as Nat functions -/
section QPerm
theorem qn_lt {a : Nat} (h : a < 2147483648) : ¬ nI a < 0 := by simp (disch := omega) only [fa_lit, nI_add, pk_mul, nI_ltI, nI_leI, nI_eq]; omega
def imgN (x i : Nat) : Nat := x / 8 ^ i % 8
theorem qs_l {k : Nat} (h : k < 32) : (((nI k).toUInt32 &&& Int32.toUInt32 31).toBitVec % 32).toNat = k := nf_sl k h
theorem q_ushr {n k : Nat} (hn : n < 4294967296) (hk : k < 32) : ((nI n).toUInt32 >>> ((nI k).toUInt32 &&& Int32.toUInt32 31)).toInt32 = nI (n / 2 ^ k) := pk_ushrN hn (nI k) k (qs_l hk)
theorem q_shl {n k : Nat} (hk : k < 32) (h : n * 2 ^ k < 4294967296) : nI n <<< (nI k &&& 31) = nI (n * 2 ^ k) := pk_shlN (nI k &&& 31) k (s_l k hk) h
theorem q_and7 (n : Nat) : nI n &&& 7 = nI (n % 8) := fa_mask n 3
theorem q_and1 (n : Nat) : nI n &&& 1 = nI (n % 2) := fa_mask n 1
theorem q_p8 (i : Nat) : 2 ^ (3 * i) = 8 ^ i := by rw [Nat.pow_mul]
theorem imgN_lt (x i : Nat) : imgN x i < 8 := Nat.mod_lt _ (by omega)
/-- imageOf -/
theorem q_imageOf {x i : Nat} (hx : x < 4294967296) (hi : i < 10) {post : Int32 → Prop} (hp : post (nI (imgN x i))) : P_X3_imageOf (nI x) (nI i) post := by
  unfold P_X3_imageOf
  have e : (3 : Int32) * nI i = nI (3 * i) := by rw [show (3 : Int32) = nI 3 from rfl, pk_mul]
  rw [e, q_ushr hx (by omega), q_and7, q_p8]
  exact hp
def thenN (x y : Nat) : Nat → Nat
  | 0 => 0
  | i + 1 => thenN x y i + imgN y (imgN x i) * 8 ^ i
theorem thenN_lt (x y : Nat) : ∀ i, thenN x y i < 8 ^ i
  | 0 => by simp [thenN]
  | i + 1 => by
    have h := thenN_lt x y i
    have h2 := imgN_lt y (imgN x i)
    have h3 : imgN y (imgN x i) * 8 ^ i ≤ 7 * 8 ^ i := Nat.mul_le_mul_right _ (by omega)
    simp only [thenN, Nat.pow_succ]; omega
theorem q_pow8 {i : Nat} (h : i ≤ 7) : 8 ^ i ≤ 2097152 := Nat.le_trans (Nat.pow_le_pow_right (by omega) h) (by decide)
theorem q_then {x y : Nat} (hx : x < 4294967296) (hy : y < 4294967296) {post : Int32 → Prop} (hp : post (nI (thenN x y 7))) : P_X3_then (nI x) (nI y) post := by
  unfold P_X3_then
  have key : ∀ k i, i + k = 7 → L_X3_then_4 post (k + 1) (nI x) (nI y) (nI (thenN x y i)) (nI i) := by
    intro k
    induction k with
    | zero =>
      intro i hi
      have hi : i = 7 := by omega
      subst hi
      show B_X3_then_4 _ _ _ _ _ _
      unfold B_X3_then_4
      exact br_t (by simp (disch := omega) only [fa_lit, nI_add, pk_mul, nI_ltI, nI_leI, nI_eq] <;> omega) hp
    | succ k ih =>
      intro i hi
      show B_X3_then_4 _ _ _ _ _ _
      unfold B_X3_then_4
      refine br_f (by simp (disch := omega) only [fa_lit, nI_add, pk_mul, nI_ltI, nI_leI, nI_eq] <;> omega) ?_
      refine q_imageOf hx (by omega) (q_imageOf hy (by have := imgN_lt x i; omega) ?_)
      have h1 := thenN_lt x y i
      have h2 := imgN_lt y (imgN x i)
      have h3 := q_pow8 (show i ≤ 7 by omega)
      have h4 : imgN y (imgN x i) * 8 ^ i < 4294967296 := by
        have : imgN y (imgN x i) * 8 ^ i ≤ 7 * 2097152 := Nat.mul_le_mul (by omega) h3
        omega
      have e : nI (thenN x y i) ||| nI (imgN y (imgN x i)) <<< (3 * nI i &&& 31) = nI (thenN x y (i + 1)) := by
        rw [show (3 : Int32) * nI i = nI (3 * i) by rw [show (3 : Int32) = nI 3 from rfl, pk_mul], q_shl (by omega) (by rw [q_p8]; exact h4), q_p8]
        have := fa_or_sum (a := thenN x y i) (k := 3 * i) (imgN y (imgN x i)) (by rw [q_p8]; exact h1)
        rw [q_p8] at this
        rw [Nat.mul_comm (imgN y (imgN x i)), fa_or, Nat.or_comm, ← fa_or, this]
        show nI _ = nI (thenN x y i + _)
        rw [Nat.add_comm, Nat.mul_comm]
      rw [e, nI_1]
      exact ih (i + 1) (by omega)
  exact ⟨8, key 7 0 rfl⟩
end QPerm
