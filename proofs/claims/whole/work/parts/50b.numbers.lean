/-! the model's numbers are one to one -/
section QNumbers
theorem less_le (y p : Nat) : ∀ k, lessN y p k ≤ k
  | 0 => Nat.le_refl _
  | k + 1 => by have := less_le y p k; rw [lessN]; split <;> omega
theorem dig_eq {a b m r s : Nat} (hr : r < m) (hs : s < m) (h : a * m + r = b * m + s) : a = b ∧ r = s := by
  have h1 : (a * m + r) / m = a := by rw [Nat.mul_comm, Nat.mul_add_div (by omega), Nat.div_eq_of_lt hr, Nat.add_zero]
  have h2 : (b * m + s) / m = b := by rw [Nat.mul_comm, Nat.mul_add_div (by omega), Nat.div_eq_of_lt hs, Nat.add_zero]
  have e : a = b := by rw [← h1, ← h2, h]
  subst e
  exact ⟨rfl, by omega⟩
theorem num_dig {n x y : Nat} : ∀ P, P ≤ n → numK n x P = numK n y P → ∀ p, p < P → lessN x p (n - p - 1) = lessN y p (n - p - 1)
  | 0, _, _, p, hp => absurd hp (Nat.not_lt_zero p)
  | P + 1, hP, h, p, hp => by
    rw [numK, numK] at h
    have l1 := less_le x P (n - P - 1)
    have l2 := less_le y P (n - P - 1)
    obtain ⟨h1, h2⟩ := dig_eq (show lessN x P (n - P - 1) < n - P by omega) (show lessN y P (n - P - 1) < n - P by omega) h
    by_cases e : p = P
    · rw [e]; exact h2
    · exact num_dig P (by omega) h1 p (by omega)
def fcK (n : Nat) : Nat → Nat
  | 0 => 1
  | p + 1 => fcK n p * (n - p)
theorem num_bd (n y : Nat) : ∀ p, p ≤ n → numK n y p < fcK n p
  | 0, _ => Nat.one_pos
  | p + 1, h => by
    have ih := num_bd n y p (by omega)
    have l := less_le y p (n - p - 1)
    rw [numK, fcK]
    have h2 : (numK n y p + 1) * (n - p) ≤ fcK n p * (n - p) := Nat.mul_le_mul_right _ ih
    rw [Nat.succ_mul] at h2
    omega
theorem fcK_le : ∀ n, n ≤ 7 → fcK n n ≤ 5040 := by decide
theorem num_lt {n : Nat} (h7 : n ≤ 7) (y : Nat) : numN n y < 5040 := Nat.lt_of_lt_of_le (num_bd n y n (Nat.le_refl _)) (fcK_le n h7)
theorem ct_below : ∀ v, v ≤ 7 → fb_ct (fun w => decide (w < v)) 7 = v := by decide
theorem ct_between : ∀ a, a < 8 → ∀ b, b < 8 → a < b → fb_ct (fun w => decide (a < w) && decide (w < b)) 7 = b - a - 1 := by decide
theorem less_ct {y p : Nat} : ∀ k, lessN y p k = fb_ct (fun q => decide (imgN y (p + 1 + q) < imgN y p)) k
  | 0 => rfl
  | k + 1 => by
    rw [lessN, fb_ct_succ, less_ct k]
    by_cases h : imgN y (p + 1 + k) < imgN y p
    · rw [if_pos h, decide_eq_true h]; rfl
    · rw [if_neg h, decide_eq_false h]; rfl
/-- the image is what is below it before, and after -/
theorem img_split {n y p : Nat} (h : isPk n y) (h7 : n ≤ 7) (hp : p < n) : imgN y p = fb_ct (fun q => decide (imgN y q < imgN y p)) p + lessN y p (n - p - 1) := by
  have hy := h.lt h7 hp
  have e1 := ct_pk h.seven (fun w => decide (w < imgN y p))
  rw [ct_below _ (by omega)] at e1
  have e2 := fb_ct_split (fun q => decide (imgN y q < imgN y p)) (p + 1) (7 - (p + 1))
  rw [show p + 1 + (7 - (p + 1)) = 7 by omega, e1, fb_ct_succ, decide_eq_false (show ¬ imgN y p < imgN y p by omega), if_neg (by decide), Nat.add_zero] at e2
  have e3 := fb_ct_split (fun q => decide (imgN y (p + 1 + q) < imgN y p)) (n - p - 1) (7 - n)
  rw [show n - p - 1 + (7 - n) = 7 - (p + 1) by omega] at e3
  have e4 : fb_ct (fun k => decide (imgN y (p + 1 + (n - p - 1 + k)) < imgN y p)) (7 - n) = 0 := fb_ct_zero.mpr fun k hk => decide_eq_false (by rw [h.2.2.2 _ (by omega) (by omega)]; omega)
  rw [e4, Nat.add_zero] at e3
  rw [less_ct]; omega
theorem img_same {n x y : Nat} (hx : isPk n x) (hy : isPk n y) (h7 : n ≤ 7) (hl : ∀ p, p < n → lessN x p (n - p - 1) = lessN y p (n - p - 1)) : ∀ P, P ≤ n → ∀ p, p < P → imgN x p = imgN y p := by
  have lt : ∀ x y, isPk n x → isPk n y → (∀ p, p < n → lessN x p (n - p - 1) = lessN y p (n - p - 1)) → ∀ p, p < n → (∀ q, q < p → imgN x q = imgN y q) → ¬ imgN x p < imgN y p := by
    intro x y hx hy hl p hp hq hlt
    have s1 := img_split hx h7 hp
    have s2 := img_split hy h7 hp
    rw [← hl p hp] at s2
    have c1 := hx.lt h7 hp
    have c2 := hy.lt h7 hp
    have o1 := fb_ct_or (p := fun q => decide (imgN x q < imgN x p)) (q := fun q => decide (imgN x p < imgN x q) && decide (imgN x q < imgN y p)) (n := p) (fun k _ h => by
      have a := of_decide_eq_true h.1
      have b := (Bool.and_eq_true _ _ ▸ h.2 : _ ∧ _)
      have := of_decide_eq_true b.1
      omega)
    have o2 : fb_ct (fun q => decide (imgN y q < imgN y p)) p = fb_ct (fun k => (fun q => decide (imgN x q < imgN x p)) k || (fun q => decide (imgN x p < imgN x q) && decide (imgN x q < imgN y p)) k) p := by
      refine fb_ct_cong fun k hk => ?_
      have ne : imgN x k ≠ imgN x p := fun z => by have := hx.2.2.1 k p (by omega) (by omega) z; omega
      show decide (imgN y k < imgN y p) = (decide (imgN x k < imgN x p) || (decide (imgN x p < imgN x k) && decide (imgN x k < imgN y p)))
      rw [← hq k hk]
      by_cases a : imgN x k < imgN x p
      · rw [decide_eq_true a, decide_eq_true (show imgN x k < imgN y p by omega), Bool.true_or]
      · rw [decide_eq_false a, decide_eq_true (show imgN x p < imgN x k by omega), Bool.true_and, Bool.false_or]
    have o3 := fb_ct_mono (fun q => decide (imgN x p < imgN x q) && decide (imgN x q < imgN y p)) (show p ≤ 7 by omega)
    have o4 := ct_pk hx.seven (fun w => decide (imgN x p < w) && decide (w < imgN y p))
    rw [ct_between _ (by omega) _ (by omega) hlt] at o4
    have o5 : fb_ct (fun q => decide (imgN y q < imgN y p)) p = fb_ct (fun q => decide (imgN x q < imgN x p)) p + fb_ct (fun q => decide (imgN x p < imgN x q) && decide (imgN x q < imgN y p)) p := o2.trans o1
    have o6 : fb_ct (fun q => decide (imgN x p < imgN x q) && decide (imgN x q < imgN y p)) 7 = imgN y p - imgN x p - 1 := o4
    clear o1 o2 o4
    omega
  intro P
  induction P with
  | zero => intro _ p hp; exact absurd hp (Nat.not_lt_zero p)
  | succ P ih =>
    intro hP p hp
    by_cases e : p = P
    · subst e
      have a := lt x y hx hy hl p (by omega) (fun q hq => ih (by omega) q hq)
      have b := lt y x hy hx (fun p hp => (hl p hp).symm) p (by omega) (fun q hq => (ih (by omega) q hq).symm)
      omega
    · exact ih (by omega) p (by omega)
theorem num_inj {n x y : Nat} (h7 : n ≤ 7) (hx : isPk n x) (hy : isPk n y) (e : numN n x = numN n y) : x = y := by
  have h := img_same hx hy h7 (num_dig n (Nat.le_refl _) e) n (Nat.le_refl _)
  refine q_ext hx.1 hy.1 fun p hp => ?_
  by_cases hn : p < n
  · exact h p hn
  · rw [hx.2.2.2 p hp (by omega), hy.2.2.2 p hp (by omega)]
end QNumbers
