/-! the class's remainder -/
section QRemOf
theorem sg_pos {a : UInt64} (h : 0 < FP.Core.zval FP.Core.b64 (FP.Core.val64 a)) : FP.Core.sgn (FP.Core.val64 a) = false := by
  cases hs : FP.Core.sgn (FP.Core.val64 a) with
  | false => rfl
  | true =>
    unfold FP.Core.zval at h
    rw [hs] at h
    simp only [FP.Core.signed, if_true] at h
    omega
/-- x and y not below 0, y a whole number, x at least y and at most a million: the rest that the class takes -/
theorem rest_ok {x y : UInt64} {D : Nat} (hx : FP.Core.DFin x) (bx : FP.Core.zmag FP.Core.b64 (FP.Core.val64 x) ≤ 1000000 * FP.Core.one64) (hy : FP.Core.DInt (D : Int) y) (hD : 0 < D) (px : 0 ≤ FP.Core.zval FP.Core.b64 (FP.Core.val64 x)) (hxy : FP.Core.zval FP.Core.b64 (FP.Core.val64 y) ≤ FP.Core.zval FP.Core.b64 (FP.Core.val64 x)) :
    FP.Core.val64 (FP.ddiv x y) ≠ .nan ∧ FP.Core.val64 (FP.dmul (FP.i2d (FP.d2i (FP.ddiv x y))) y) ≠ .nan ∧ FP.Core.val64 (FP.dsub x (FP.dmul (FP.i2d (FP.d2i (FP.ddiv x y))) y)) ≠ .nan ∧ FP.Core.zval FP.Core.b64 (FP.Core.val64 (FP.dsub x (FP.dmul (FP.i2d (FP.d2i (FP.ddiv x y))) y))) = ((FP.Core.zmag FP.Core.b64 (FP.Core.val64 x) % FP.Core.zmag FP.Core.b64 (FP.Core.val64 y) : Nat) : Int) := by
  have hone := FP.Core.one64_pos
  have zy := FP.Core.DInt_zval hy
  have ny := FP.Core.DInt_ne_nan hy
  have nx := hx.ne_nan
  have hzx := zs_D x
  have hzy := zs_D y
  have mY : FP.Core.zmag FP.Core.b64 (FP.Core.val64 y) = D * FP.Core.one64 := by
    rw [← hzy, zy, ← Int.natCast_mul]; exact Int.natAbs_natCast _
  have hYp : 0 < D * FP.Core.one64 := Nat.mul_pos hD hone
  have zyp : FP.Core.zval FP.Core.b64 (FP.Core.val64 y) = ((D * FP.Core.one64 : Nat) : Int) := by rw [zy, Int.natCast_mul]
  have zxp : FP.Core.zval FP.Core.b64 (FP.Core.val64 x) = ((FP.Core.zmag FP.Core.b64 (FP.Core.val64 x) : Nat) : Int) := by omega
  have hXY : D * FP.Core.one64 ≤ FP.Core.zmag FP.Core.b64 (FP.Core.val64 x) := by omega
  have sx : FP.Core.sgn (FP.Core.val64 x) = false := sg_pos (by omega)
  have sy : FP.Core.sgn (FP.Core.val64 y) = false := sg_pos (by omega)
  have fx := FP.Core.val64_fits x
  obtain ⟨s, c, q, ex⟩ := hx
  have hfy : ∃ t d r, FP.Core.val64 y = .fin t d r := by
    cases hv : FP.Core.val64 y with
    | nan => exact absurd hv ny
    | inf t => unfold FP.Core.DInt at hy; rw [hv] at hy; exact hy.elim
    | fin t d r => exact ⟨t, d, r, rfl⟩
  obtain ⟨t, d, r, ey⟩ := hfy
  have s0 : s = false := by rw [ex] at sx; exact sx
  have t0 : t = false := by rw [ey] at sy; exact sy
  have hd0 : d ≠ 0 := by
    intro z
    rw [ey, z] at mY
    have : FP.Core.zmag FP.Core.b64 (.fin t 0 r) = 0 := by show 0 * _ = 0; exact Nat.zero_mul _
    omega
  have hq := quo_units ex ey hd0
  have hne : FP.Core.val64 (FP.ddiv x y) ≠ .nan := by rw [hq]; exact FP.Core.roundRatio_ne_nan _ _ _ _ _
  have hsg : FP.Core.sgn (FP.Core.val64 (FP.ddiv x y)) = false := by rw [hq, FP.Core.sgn_roundRatio, s0, t0]; rfl
  -- the exponent of x
  have fq := fx
  rw [ex] at fq
  have hqle : q ≤ 0 := by
    rcases Int.lt_or_le 0 q with z | z
    · exfalso
      have hm : FP.Core.b64.qmin = -1074 := FP.Core.qmin_b64
      have hc : 2 ^ 52 ≤ c := by
        rcases fq.2.2.2 with w | w
        · omega
        · rw [FP.Core.tails_b64] at w; exact w
      rw [ex] at bx
      have hb : c * 2 ^ (q - FP.Core.b64.qmin).toNat ≤ 1000000 * FP.Core.one64 := bx
      have e74 : 2 ^ (q.toNat + 1074) = 2 ^ q.toNat * FP.Core.one64 := Nat.pow_add 2 q.toNat 1074
      rw [hm, show (q - -1074).toNat = q.toNat + 1074 by omega, e74, ← Nat.mul_assoc] at hb
      have h2 : c * 2 ^ q.toNat ≤ 1000000 := Nat.le_of_mul_le_mul_right hb hone
      have h3 : c * 1 ≤ c * 2 ^ q.toNat := Nat.mul_le_mul_left _ (Nat.two_pow_pos _)
      have h4 : (2 : Nat) ^ 52 = 4503599627370496 := by decide
      omega
    · exact z
  have hX : FP.Core.zmag FP.Core.b64 (FP.Core.val64 x) = c * 2 ^ (q - FP.Core.b64.qmin).toNat := by rw [ex]; rfl
  have hj : (q - FP.Core.b64.qmin).toNat ≤ 1074 := by rw [FP.Core.qmin_b64]; omega
  have hcut := cut_div (s := s != t) hj hX fq.1 mY (by rw [mY]; exact hYp) (by rw [mY]; exact hXY) bx
  rw [← hq] at hcut
  generalize hXX : FP.Core.zmag FP.Core.b64 (FP.Core.val64 x) = X at *
  -- the whole quotient
  have hdv := FP.Core.d2i_val hne
  rw [hsg, hcut, mY] at hdv
  have hk1 : X / (D * FP.Core.one64) * (D * FP.Core.one64) ≤ X := Nat.div_mul_le_self _ _
  have hkle : X / (D * FP.Core.one64) ≤ 1000000 := by
    refine Nat.div_le_of_le_mul ?_
    calc X ≤ 1000000 * FP.Core.one64 := bx
      _ ≤ D * (1000000 * FP.Core.one64) := Nat.le_mul_of_pos_left _ hD
      _ = D * FP.Core.one64 * 1000000 := by rw [Nat.mul_comm 1000000, Nat.mul_assoc]
  have hkD : X / (D * FP.Core.one64) * D ≤ 1000000 := by
    have h1 : X / (D * FP.Core.one64) * D * FP.Core.one64 ≤ 1000000 * FP.Core.one64 := by rw [Nat.mul_assoc]; exact Nat.le_trans hk1 bx
    exact Nat.le_of_mul_le_mul_right h1 hone
  generalize hK : X / (D * FP.Core.one64) = k at *
  have hdi : (FP.d2i (FP.ddiv x y)).toInt = (k : Int) := by
    rw [show (FP.d2i (FP.ddiv x y)).toInt = _ from hdv]
    simp only [FP.Core.signed, Bool.false_eq_true, if_false]
    omega
  have w1 := FP.Core.i2d_int (FP.d2i (FP.ddiv x y))
  rw [hdi] at w1
  have hkd2 : ((k : Int) * (D : Int)).natAbs ≤ 2 ^ 53 := by
    rw [← Int.natCast_mul, Int.natAbs_natCast]
    have h4 : (2 : Nat) ^ 53 = 9007199254740992 := by decide
    omega
  have w2 := FP.Core.dmul_int w1 hy hkd2
  have nw : FP.Core.val64 (FP.dmul (FP.i2d (FP.d2i (FP.ddiv x y))) y) ≠ .nan := FP.Core.DInt_ne_nan w2
  have zw : FP.Core.zval FP.Core.b64 (FP.Core.val64 (FP.dmul (FP.i2d (FP.d2i (FP.ddiv x y))) y)) = (k : Int) * (D : Int) * (FP.Core.one64 : Int) := FP.Core.DInt_zval w2
  have hfw : ∃ t d r, FP.Core.val64 (FP.dmul (FP.i2d (FP.d2i (FP.ddiv x y))) y) = .fin t d r := by
    cases hv : FP.Core.val64 (FP.dmul (FP.i2d (FP.d2i (FP.ddiv x y))) y) with
    | nan => exact absurd hv nw
    | inf t =>
      have w3 : FP.Core.Whole _ (FP.Core.val64 (FP.dmul (FP.i2d (FP.d2i (FP.ddiv x y))) y)) := w2
      rw [hv] at w3; exact w3.elim
    | fin t d r => exact ⟨t, d, r, rfl⟩
  clear w2 w1
  generalize FP.dmul (FP.i2d (FP.d2i (FP.ddiv x y))) y = w at *
  refine ⟨hne, nw, ?_⟩
  -- the rest
  have hrem := FP.Core.drem_zval (a := x) (b := y) ⟨s, c, q, ex⟩ ny (FP.Core.dnot_zero ny (by omega))
  obtain ⟨r1, r2, r3⟩ := hrem
  have zV : FP.Core.zval FP.Core.b64 (FP.Core.val64 (FP.Core.drem x y)) = ((X % (D * FP.Core.one64) : Nat) : Int) := by
    unfold FP.Core.zval
    rw [r2, r3, sx, mY]
    simp only [FP.Core.signed, Bool.false_eq_true, if_false]
    rw [hXX]
  have hsum : FP.Core.zval FP.Core.b64 (FP.Core.val64 x) + FP.Core.zval FP.Core.b64 (FP.Core.negate (FP.Core.val64 w)) = FP.Core.zval FP.Core.b64 (FP.Core.val64 (FP.Core.drem x y)) := by
    rw [FP.Core.zval_negate, zw, zV, zxp]
    have e1 := Nat.div_add_mod X (D * FP.Core.one64)
    rw [hK] at e1
    have e2 : (k : Int) * (D : Int) * (FP.Core.one64 : Int) = ((D * FP.Core.one64 * k : Nat) : Int) := by
      rw [← Int.natCast_mul, ← Int.natCast_mul, show k * D * FP.Core.one64 = D * FP.Core.one64 * k by rw [Nat.mul_assoc, Nat.mul_comm]]
    rw [e2]; omega
  have hval : FP.Core.val64 (FP.dsub x w) = FP.Core.round FP.Core.b64 (FP.Core.exactSum (FP.Core.val64 x) (FP.Core.negate (FP.Core.val64 w))) := FP.Core.val64_dsub x w
  have hfn : ∃ t d r, FP.Core.negate (FP.Core.val64 w) = .fin t d r := by
    obtain ⟨t, d, r, h⟩ := hfw
    exact ⟨!t, d, r, by rw [h]; rfl⟩
  have fw := FP.Core.negate_fits (FP.Core.val64_fits w)
  have fV := FP.Core.val64_fits (FP.Core.drem x y)
  have l1 := FP.Core.sum_le FP.Core.good_b64 ⟨s, c, q, ex⟩ hfn fx fw fV r1 (by rw [hsum]; exact Int.le_refl _)
  have l2 := FP.Core.sum_ge FP.Core.good_b64 ⟨s, c, q, ex⟩ hfn fx fw fV r1 (by rw [hsum]; exact Int.le_refl _)
  rw [← hval] at l1 l2
  refine ⟨?_, by rw [mY, ← zV]; exact Int.le_antisymm l1 l2⟩
  rw [hval]
  intro hnan
  rw [FP.Core.round_nan, ex] at hnan
  obtain ⟨t', d', r', h⟩ := hfn
  rw [h] at hnan
  cases hnan
end QRemOf
