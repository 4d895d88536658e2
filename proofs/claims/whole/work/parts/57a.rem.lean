/-! the remainder of doubles: the quotient is cut where it should be -/
section QRem
theorem one_split {a b : Nat} (h : a + b = 1074) : FP.Core.one64 = 2 ^ a * 2 ^ b := by rw [← Nat.pow_add, h]; rfl
theorem quo_units {a b : UInt64} {s t : Bool} {c d : Nat} {q r : Int} (ha : FP.Core.val64 a = .fin s c q) (hb : FP.Core.val64 b = .fin t d r) (hd : d ≠ 0) : FP.Core.val64 (FP.ddiv a b) = FP.Core.roundRatio FP.Core.b64 (s != t) (FP.Core.zmag FP.Core.b64 (FP.Core.val64 a)) (FP.Core.zmag FP.Core.b64 (FP.Core.val64 b)) 0 := by
  have fa := FP.Core.val64_fits a
  have fb := FP.Core.val64_fits b
  rw [show FP.Core.val64 (FP.ddiv a b) = FP.Core.quotient FP.Core.b64 (FP.Core.val64 a) (FP.Core.val64 b) from FP.Core.val64_ddiv a b, ha, hb]
  rw [ha] at fa
  rw [hb] at fb
  show (if d = 0 then _ else FP.Core.roundRatio FP.Core.b64 (s != t) c d (q - r)) = _
  rw [if_neg hd]
  have h1 := fa.2.1
  have h2 := fb.2.1
  show _ = FP.Core.roundRatio FP.Core.b64 (s != t) (c * 2 ^ (q - FP.Core.b64.qmin).toNat) (d * 2 ^ (r - FP.Core.b64.qmin).toNat) 0
  generalize FP.Core.b64.qmin = m at *
  refine FP.Core.roundRatio_congr (by omega) (Nat.mul_pos (by omega) (Nat.two_pow_pos _)) ?_
  have e : (r - m).toNat + (q - r - 0).toNat = (q - m).toNat + (0 - (q - r)).toNat := by omega
  have e2 : 2 ^ (r - m).toNat * 2 ^ (q - r - 0).toNat = 2 ^ (q - m).toNat * 2 ^ (0 - (q - r)).toNat := by rw [← Nat.pow_add, ← Nat.pow_add, e]
  calc c * (d * 2 ^ (r - m).toNat) * 2 ^ (q - r - 0).toNat = c * d * (2 ^ (r - m).toNat * 2 ^ (q - r - 0).toNat) := by ac_rfl
    _ = c * d * (2 ^ (q - m).toNat * 2 ^ (0 - (q - r)).toNat) := by rw [e2]
    _ = c * 2 ^ (q - m).toNat * d * 2 ^ (0 - (q - r)).toNat := by ac_rfl
/-- n is the quotient in units of its last place -/
theorem cut_core {X Y c j D l P n k : Nat} (hj : j ≤ 1074) (hX : X = c * 2 ^ j) (hc : c < 2 ^ 53) (hY : Y = D * FP.Core.one64) (hY0 : 0 < Y) (hl : Y * 2 ^ l ≤ X) (hP : P + l = 52) (hk1 : k * Y ≤ X) (hk2 : X < (k + 1) * Y) (hn : 2 * n * Y ≤ 2 * (X * 2 ^ P) + Y) : n < (k + 1) * 2 ^ P := by
  rcases Nat.lt_or_ge n ((k + 1) * 2 ^ P) with h | h
  · exact h
  · exfalso
    have p0 := Nat.two_pow_pos P
    obtain ⟨δ, hδ⟩ : ∃ δ, (k + 1) * Y = X + δ := ⟨(k + 1) * Y - X, by omega⟩
    have hδ0 : 0 < δ := by omega
    -- δ is a multiple of 2 ^ j
    have hdiv : 2 ^ j ∣ δ := by
      have d1 : 2 ^ j ∣ (k + 1) * Y := by
        rw [hY, one_split (show j + (1074 - j) = 1074 by omega)]
        exact ⟨(k + 1) * D * 2 ^ (1074 - j), by ac_rfl⟩
      have d2 : 2 ^ j ∣ X := by rw [hX]; exact Nat.dvd_mul_left _ _
      rw [hδ] at d1
      exact (Nat.dvd_add_right d2).mp d1
    have hge : 2 ^ j ≤ δ := Nat.le_of_dvd hδ0 hdiv
    have h1 : 2 * ((k + 1) * 2 ^ P) * Y ≤ 2 * n * Y := Nat.mul_le_mul_right _ (Nat.mul_le_mul_left _ h)
    have h2 : 2 * ((k + 1) * 2 ^ P) * Y = 2 * (X * 2 ^ P) + 2 * (δ * 2 ^ P) := by
      calc 2 * ((k + 1) * 2 ^ P) * Y = 2 * (((k + 1) * Y) * 2 ^ P) := by ac_rfl
        _ = 2 * ((X + δ) * 2 ^ P) := by rw [hδ]
        _ = _ := by rw [Nat.add_mul, Nat.mul_add]
    have h3 : 2 * (2 ^ j * 2 ^ P) ≤ Y := by
      have : 2 ^ j * 2 ^ P ≤ δ * 2 ^ P := Nat.mul_le_mul_right _ hge
      omega
    have h4 : 2 * (2 ^ j * 2 ^ P) * 2 ^ l ≤ Y * 2 ^ l := Nat.mul_le_mul_right _ h3
    have h5 : 2 * (2 ^ j * 2 ^ P) * 2 ^ l = 2 ^ 53 * 2 ^ j := by
      calc 2 * (2 ^ j * 2 ^ P) * 2 ^ l = 2 * (2 ^ P * 2 ^ l) * 2 ^ j := by ac_rfl
        _ = 2 * 2 ^ 52 * 2 ^ j := by rw [← Nat.pow_add, hP]
        _ = _ := rfl
    have h6 : c * 2 ^ j < 2 ^ 53 * 2 ^ j := Nat.mul_lt_mul_of_pos_right hc (Nat.two_pow_pos j)
    rw [← hX] at h6
    omega
theorem cut_div {X Y c j D : Nat} {s : Bool} (hj : j ≤ 1074) (hX : X = c * 2 ^ j) (hc : c < 2 ^ 53) (hY : Y = D * FP.Core.one64) (hY0 : 0 < Y) (hXY : Y ≤ X) (hb : X ≤ 1000000 * FP.Core.one64) : FP.Core.zmag FP.Core.b64 (FP.Core.roundRatio FP.Core.b64 s X Y 0) / FP.Core.one64 = X / Y := by
  have hX0 : 0 < X := by omega
  have hD : 1 ≤ D := by
    rcases Nat.eq_zero_or_pos D with z | z
    · rw [z] at hY; omega
    · exact z
  have hU : FP.Core.one64 ≤ Y := by rw [hY]; exact Nat.le_mul_of_pos_left _ hD
  obtain ⟨L1, L2⟩ := FP.Core.leading_spec hX0 hY0
  have hL0 : 0 ≤ FP.Core.leading X Y := by
    rcases Int.lt_or_le (FP.Core.leading X Y) 0 with z | z
    · have := FP.Core.below_mono (show FP.Core.leading X Y + 1 ≤ 0 by omega) L2
      unfold FP.Core.Below at this
      simp only [Int.neg_zero, Int.toNat_zero, Nat.pow_zero, Nat.mul_one] at this
      omega
    · exact z
  obtain ⟨l, hl⟩ := Int.eq_ofNat_of_zero_le hL0
  rw [hl] at L1 L2
  have b1 : Y * 2 ^ l ≤ X := by
    unfold FP.Core.Below at L1
    rw [show (-(l : Int)).toNat = 0 by omega, Int.toNat_natCast, Nat.pow_zero, Nat.mul_one] at L1
    omega
  have b2 : X < Y * 2 ^ (l + 1) := by
    unfold FP.Core.Below at L2
    rw [show (-((l : Int) + 1)).toNat = 0 by omega, show ((l : Int) + 1).toNat = l + 1 by omega, Nat.pow_zero, Nat.mul_one] at L2
    exact L2
  have hl20 : l < 20 := by
    rcases Nat.lt_or_ge l 20 with z | z
    · exact z
    · exfalso
      have h1 : Y * 2 ^ 20 ≤ Y * 2 ^ l := Nat.mul_le_mul_left _ (Nat.pow_le_pow_right (by decide) z)
      have h2 : FP.Core.one64 * 2 ^ 20 ≤ Y * 2 ^ 20 := Nat.mul_le_mul_right _ hU
      have h3 : 1000000 * FP.Core.one64 < FP.Core.one64 * 2 ^ 20 := by rw [Nat.mul_comm]; exact Nat.mul_lt_mul_of_pos_left (by decide) FP.Core.one64_pos
      exact absurd (Nat.le_trans h2 (Nat.le_trans h1 (Nat.le_trans b1 hb))) (Nat.not_le_of_lt h3)
  have hq : FP.Core.quantum FP.Core.b64 X Y 0 = (l : Int) - 52 := by
    unfold FP.Core.quantum
    rw [hl]
    show max FP.Core.b64.qmin ((l : Int) + 0 - (((53 : Nat) : Int) - 1)) = _
    rw [FP.Core.qmin_b64]; omega
  have hr : FP.Core.roundRatio FP.Core.b64 s X Y 0 = FP.Core.settle FP.Core.b64 s (FP.Core.nearest (X * 2 ^ (52 - l)) Y) ((l : Int) - 52) := by
    unfold FP.Core.roundRatio FP.Core.roundAt
    rw [if_neg (by omega), hq]
    unfold FP.Core.unitsNum FP.Core.unitsDen
    rw [show (0 - ((l : Int) - 52)).toNat = 52 - l by omega, show ((l : Int) - 52 - 0).toNat = 0 by omega, Nat.pow_zero, Nat.mul_one]
  have k1 : X / Y * Y ≤ X := Nat.div_mul_le_self X Y
  have k2 : X < (X / Y + 1) * Y := by
    have := Nat.lt_mul_div_succ X hY0
    rw [Nat.mul_comm] at this; exact this
  have n1 : X / Y * 2 ^ (52 - l) ≤ FP.Core.nearest (X * 2 ^ (52 - l)) Y := FP.Core.nearest_ge hY0 (by
    calc X / Y * 2 ^ (52 - l) * Y = X / Y * Y * 2 ^ (52 - l) := by ac_rfl
      _ ≤ _ := Nat.mul_le_mul_right _ k1)
  have n2 : FP.Core.nearest (X * 2 ^ (52 - l)) Y < (X / Y + 1) * 2 ^ (52 - l) := cut_core hj hX hc hY hY0 b1 (by omega) k1 k2 (FP.Core.nearest_spec (X * 2 ^ (52 - l)) Y hY0).2.1
  have n3 : FP.Core.nearest (X * 2 ^ (52 - l)) Y ≤ 2 ^ 53 := FP.Core.nearest_le hY0 (by
    have h1 : X * 2 ^ (52 - l) ≤ Y * 2 ^ (l + 1) * 2 ^ (52 - l) := Nat.mul_le_mul_right _ (Nat.le_of_lt b2)
    have h2 : Y * 2 ^ (l + 1) * 2 ^ (52 - l) = 2 ^ 53 * Y := by
      rw [Nat.mul_assoc, ← Nat.pow_add, show l + 1 + (52 - l) = 53 by omega, Nat.mul_comm]
    rw [← h2]; exact h1)
  generalize FP.Core.nearest (X * 2 ^ (52 - l)) Y = n at *
  have hz : FP.Core.zmag FP.Core.b64 (FP.Core.settle FP.Core.b64 s n ((l : Int) - 52)) = n * 2 ^ (1022 + l) := by
    unfold FP.Core.settle FP.Core.bound
    have hqm : FP.Core.b64.qmax = 971 := by decide
    by_cases h53 : n < 2 ^ FP.Core.b64.p
    · rw [if_pos h53, if_pos (by rw [hqm]; omega)]
      show n * 2 ^ ((l : Int) - 52 - FP.Core.b64.qmin).toNat = _
      rw [FP.Core.qmin_b64, show ((l : Int) - 52 - -1074).toNat = 1022 + l by omega]
    · have hn53 : n = 2 ^ 53 := by
        have : (2 : Nat) ^ FP.Core.b64.p = 2 ^ 53 := rfl
        omega
      rw [if_neg h53, if_pos (by rw [hqm]; omega)]
      show FP.Core.b64.tails * 2 ^ ((l : Int) - 52 + 1 - FP.Core.b64.qmin).toNat = _
      rw [FP.Core.qmin_b64, FP.Core.tails_b64, hn53, show ((l : Int) - 52 + 1 - -1074).toNat = 1022 + l + 1 by omega, show 2 ^ (1022 + l + 1) = 2 ^ (1022 + l) * 2 from Nat.pow_succ 2 (1022 + l), Nat.mul_comm (2 ^ (1022 + l)) 2, ← Nat.mul_assoc]
  rw [hr, hz, one_split (show (52 - l) + (1022 + l) = 1074 by omega), Nat.mul_div_mul_right _ _ (Nat.two_pow_pos _)]
  refine Nat.le_antisymm ?_ ?_
  · have := (Nat.div_lt_iff_lt_mul (Nat.two_pow_pos (52 - l))).mpr n2
    omega
  · exact (Nat.le_div_iff_mul_le (Nat.two_pow_pos _)).mpr n1
end QRem
