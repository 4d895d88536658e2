/-! packed permutations -/
section QPk
def isPk (n x : Nat) : Prop := x < 2097152 ∧ (∀ i, i < 7 → imgN x i < 7) ∧ (∀ i j, i < 7 → j < 7 → imgN x i = imgN x j → i = j) ∧ ∀ i, i < 7 → n ≤ i → imgN x i = i
def mkN (a b c d e g h : Nat) : Nat := a + b * 8 + c * 64 + d * 512 + e * 4096 + g * 32768 + h * 262144
theorem q_mk {x : Nat} (h : x < 2097152) : x = mkN (imgN x 0) (imgN x 1) (imgN x 2) (imgN x 3) (imgN x 4) (imgN x 5) (imgN x 6) := by
  simp only [imgN, mkN, Nat.reducePow]; omega
theorem q_ext {x y : Nat} (hx : x < 2097152) (hy : y < 2097152) (h : ∀ i, i < 7 → imgN x i = imgN y i) : x = y := by
  rw [q_mk hx, q_mk hy, h 0 (by omega), h 1 (by omega), h 2 (by omega), h 3 (by omega), h 4 (by omega), h 5 (by omega), h 6 (by omega)]
def all7 (Pr : Nat → Bool) : Bool := (List.range 7).all fun a => (List.range 7).all fun b => b == a || (List.range 7).all fun c => c == a || (c == b || (List.range 7).all fun d => d == a || (d == b || (d == c || (List.range 7).all fun e => e == a || (e == b || (e == c || (e == d || (List.range 7).all fun g => g == a || (g == b || (g == c || (g == d || (g == e || (List.range 7).all fun h => h == a || (h == b || (h == c || (h == d || (h == e || (h == g || Pr (mkN a b c d e g h))))))))))))))))
theorem q_ne_or {a b : Nat} {r : Bool} (h : (a == b || r) = true) (hn : a ≠ b) : r = true := by
  cases r with
  | true => rfl
  | false => simp at h; exact absurd h hn
theorem all7_ok {Pr : Nat → Bool} (h : all7 Pr = true) {x : Nat} (hx : isPk 7 x) : Pr x = true := by
  obtain ⟨h0, h1, h2, -⟩ := hx
  rw [q_mk h0]
  have hn : ∀ i j, i < 7 → j < 7 → i ≠ j → imgN x i ≠ imgN x j := fun i j hi hj hne e => hne (h2 i j hi hj e)
  have r : ∀ i, i < 7 → imgN x i ∈ List.range 7 := fun i hi => List.mem_range.mpr (h1 i hi)
  have a1 := List.all_eq_true.mp h _ (r 0 (by omega))
  have a2 := q_ne_or (List.all_eq_true.mp a1 _ (r 1 (by omega))) (hn 1 0 (by omega) (by omega) (by omega))
  have a3 := q_ne_or (q_ne_or (List.all_eq_true.mp a2 _ (r 2 (by omega))) (hn 2 0 (by omega) (by omega) (by omega))) (hn 2 1 (by omega) (by omega) (by omega))
  have a4 := q_ne_or (q_ne_or (q_ne_or (List.all_eq_true.mp a3 _ (r 3 (by omega))) (hn 3 0 (by omega) (by omega) (by omega))) (hn 3 1 (by omega) (by omega) (by omega))) (hn 3 2 (by omega) (by omega) (by omega))
  have a5 := q_ne_or (q_ne_or (q_ne_or (q_ne_or (List.all_eq_true.mp a4 _ (r 4 (by omega))) (hn 4 0 (by omega) (by omega) (by omega))) (hn 4 1 (by omega) (by omega) (by omega))) (hn 4 2 (by omega) (by omega) (by omega))) (hn 4 3 (by omega) (by omega) (by omega))
  have a6 := q_ne_or (q_ne_or (q_ne_or (q_ne_or (q_ne_or (List.all_eq_true.mp a5 _ (r 5 (by omega))) (hn 5 0 (by omega) (by omega) (by omega))) (hn 5 1 (by omega) (by omega) (by omega))) (hn 5 2 (by omega) (by omega) (by omega))) (hn 5 3 (by omega) (by omega) (by omega))) (hn 5 4 (by omega) (by omega) (by omega))
  exact q_ne_or (q_ne_or (q_ne_or (q_ne_or (q_ne_or (q_ne_or (List.all_eq_true.mp a6 _ (r 6 (by omega))) (hn 6 0 (by omega) (by omega) (by omega))) (hn 6 1 (by omega) (by omega) (by omega))) (hn 6 2 (by omega) (by omega) (by omega))) (hn 6 3 (by omega) (by omega) (by omega))) (hn 6 4 (by omega) (by omega) (by omega))) (hn 6 5 (by omega) (by omega) (by omega))
theorem isPk.seven {n x : Nat} (h : isPk n x) : isPk 7 x := ⟨h.1, h.2.1, h.2.2.1, fun i h1 h2 => absurd h2 (by omega)⟩
theorem q_dig {A B k i : Nat} (hi : i < k) : (A + B * 8 ^ k) / 8 ^ i % 8 = A / 8 ^ i % 8 := by
  obtain ⟨d, rfl⟩ : ∃ d, k = i + (d + 1) := ⟨k - i - 1, by omega⟩
  rw [Nat.pow_add, Nat.mul_comm (8 ^ i), ← Nat.mul_assoc, Nat.add_mul_div_right _ _ (Nat.pow_pos (by omega)), Nat.pow_succ, ← Nat.mul_assoc, Nat.add_mul_mod_self_right]
theorem q_dig_top {A B k : Nat} (hA : A < 8 ^ k) (hB : B < 8) : (A + B * 8 ^ k) / 8 ^ k % 8 = B := by
  rw [Nat.add_mul_div_right _ _ (Nat.pow_pos (by omega)), Nat.div_eq_of_lt hA, Nat.zero_add, Nat.mod_eq_of_lt hB]
theorem img_then {x y : Nat} : ∀ k i, i < k → imgN (thenN x y k) i = imgN y (imgN x i)
  | 0, i, h => absurd h (by omega)
  | k + 1, i, h => by
    show (thenN x y k + imgN y (imgN x k) * 8 ^ k) / 8 ^ i % 8 = _
    by_cases hk : i < k
    · rw [q_dig hk]; exact img_then k i hk
    · have : i = k := by omega
      subst this
      exact q_dig_top (thenN_lt x y i) (imgN_lt _ _)
/-- first x, then y -/
def cmp (x y : Nat) : Nat := thenN x y 7
theorem img_cmp {x y i : Nat} (h : i < 7) : imgN (cmp x y) i = imgN y (imgN x i) := img_then 7 i h
theorem cmp_lt (x y : Nat) : cmp x y < 2097152 := thenN_lt x y 7
theorem isPk.cmp {n x y : Nat} (hx : isPk n x) (hy : isPk n y) : isPk n (cmp x y) := by
  refine ⟨cmp_lt x y, fun i hi => ?_, fun i j hi hj e => ?_, fun i hi hn => ?_⟩
  · rw [img_cmp hi]; exact hy.2.1 _ (hx.2.1 i hi)
  · rw [img_cmp hi, img_cmp hj] at e
    exact hx.2.2.1 i j hi hj (hy.2.2.1 _ _ (hx.2.1 i hi) (hx.2.1 j hj) e)
  · rw [img_cmp hi, hx.2.2.2 i hi hn, hy.2.2.2 i hi hn]
theorem img_id : ∀ i, i < 7 → imgN 1754760 i = i := by decide
theorem isPk_id (n : Nat) : isPk n 1754760 := ⟨by decide, fun i hi => by rw [img_id i hi]; exact hi, fun i j hi hj e => by rw [img_id i hi, img_id j hj] at e; exact e, fun i hi _ => img_id i hi⟩
theorem cmp_id {n x : Nat} (hx : isPk n x) : cmp x 1754760 = x := q_ext (cmp_lt _ _) hx.1 (fun i hi => by rw [img_cmp hi, img_id _ (hx.2.1 i hi)])
theorem id_cmp {n x : Nat} (hx : isPk n x) : cmp 1754760 x = x := q_ext (cmp_lt _ _) hx.1 (fun i hi => by rw [img_cmp hi, img_id i hi])
theorem cmp_assoc {n x y z : Nat} (hx : isPk n x) (hy : isPk n y) : cmp (cmp x y) z = cmp x (cmp y z) := q_ext (cmp_lt _ _) (cmp_lt _ _) (fun i hi => by rw [img_cmp hi, img_cmp hi, img_cmp hi, img_cmp (hx.2.1 i hi)])
def ivN (x : Nat) : Nat := invN x 7
def prInv (x : Nat) : Bool := decide (ivN x < 2097152) && (List.range 7).all fun i => imgN (ivN x) (imgN x i) == i && (imgN x (imgN (ivN x) i) == i && decide (imgN (ivN x) i < 7))
set_option maxRecDepth 100000 in
set_option maxHeartbeats 4000000 in
theorem prInv_all : all7 prInv = true := by decide +kernel
theorem iv_lt {n x : Nat} (hx : isPk n x) : ivN x < 2097152 := by
  have h := all7_ok prInv_all hx.seven
  simp only [prInv, Bool.and_eq_true, decide_eq_true_eq] at h
  exact h.1
theorem iv_all {n x i : Nat} (hx : isPk n x) (hi : i < 7) : imgN (ivN x) (imgN x i) = i ∧ imgN x (imgN (ivN x) i) = i ∧ imgN (ivN x) i < 7 := by
  have h := all7_ok prInv_all hx.seven
  simp only [prInv, Bool.and_eq_true, List.all_eq_true, List.mem_range, beq_iff_eq, decide_eq_true_eq] at h
  exact h.2 i hi
theorem isPk.iv {n x : Nat} (hx : isPk n x) : isPk n (ivN x) := by
  refine ⟨iv_lt hx, fun i hi => (iv_all hx hi).2.2, fun i j hi hj e => ?_, fun i hi hn => ?_⟩
  · have h1 := (iv_all hx hi).2.1
    have h2 := (iv_all hx hj).2.1
    rw [e] at h1; exact h1.symm.trans h2
  · have h1 := (iv_all hx hi).1
    rw [hx.2.2.2 i hi hn] at h1; exact h1
theorem cmp_iv {n x : Nat} (hx : isPk n x) : cmp x (ivN x) = 1754760 := q_ext (cmp_lt _ _) (by decide) (fun i hi => by rw [img_cmp hi, img_id i hi]; exact (iv_all hx hi).1)
theorem iv_cmp {n x : Nat} (hx : isPk n x) : cmp (ivN x) x = 1754760 := q_ext (cmp_lt _ _) (by decide) (fun i hi => by rw [img_cmp hi, img_id i hi]; exact (iv_all hx hi).2.1)
theorem iv_iv {n x : Nat} (hx : isPk n x) : ivN (ivN x) = x := by
  have h := cmp_assoc (z := ivN (ivN x)) hx hx.iv
  rw [cmp_iv hx, cmp_iv hx.iv, id_cmp hx.iv.iv, cmp_id hx] at h
  exact h
end QPk
