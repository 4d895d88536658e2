/-! remainder -/
section QRemCase
/-- the value of the remainder, in units -/
def remZ (x y : UInt64) : Int := if FP.Core.zval FP.Core.b64 (FP.Core.val64 x) < 0 then -((FP.Core.zmag FP.Core.b64 (FP.Core.val64 x) % FP.Core.zmag FP.Core.b64 (FP.Core.val64 y) : Nat) : Int) else ((FP.Core.zmag FP.Core.b64 (FP.Core.val64 x) % FP.Core.zmag FP.Core.b64 (FP.Core.val64 y) : Nat) : Int)
theorem z_neg (a : UInt64) : FP.Core.zval FP.Core.b64 (FP.Core.val64 (FP.dneg a)) = -FP.Core.zval FP.Core.b64 (FP.Core.val64 a) := by rw [FP.val64_dneg, FP.Core.zval_negate]
theorem n_neg {a : UInt64} (h : FP.Core.val64 a ≠ .nan) : FP.Core.val64 (FP.dneg a) ≠ .nan := by rw [FP.val64_dneg]; exact FP.Core.negate_ne_nan h
theorem m_neg (a : UInt64) : FP.Core.zmag FP.Core.b64 (FP.Core.val64 (FP.dneg a)) = FP.Core.zmag FP.Core.b64 (FP.Core.val64 a) := by
  rw [← zs_D, ← zs_D, z_neg, Int.natAbs_neg]
theorem f_neg {a : UInt64} (h : FP.Core.DFin a) : FP.Core.DFin (FP.dneg a) := by
  obtain ⟨s, c, q, h⟩ := h
  exact ⟨!s, c, q, by rw [FP.val64_dneg, h]; rfl⟩
theorem nn_0 : FP.Core.val64 0 ≠ .nan := by decide +kernel
theorem q_rem26 {x y u v : UInt64} (nx : FP.Core.val64 x ≠ .nan) (fu : FP.Core.DFin u) (mu : FP.Core.zmag FP.Core.b64 (FP.Core.val64 u) = FP.Core.zmag FP.Core.b64 (FP.Core.val64 x)) (pu : 0 ≤ FP.Core.zval FP.Core.b64 (FP.Core.val64 u)) (bu : FP.Core.zmag FP.Core.b64 (FP.Core.val64 x) ≤ 1000000 * FP.Core.one64) (nv : FP.Core.val64 v ≠ .nan) (mv : FP.Core.zmag FP.Core.b64 (FP.Core.val64 v) = FP.Core.zmag FP.Core.b64 (FP.Core.val64 y)) (pv : 0 ≤ FP.Core.zval FP.Core.b64 (FP.Core.val64 v)) (hw : (∃ D : Nat, 0 < D ∧ FP.Core.DInt (D : Int) v) ∨ FP.Core.zmag FP.Core.b64 (FP.Core.val64 x) < FP.Core.zmag FP.Core.b64 (FP.Core.val64 y)) {post : UInt64 → Prop} (hp : ∀ r, FP.Core.val64 r ≠ .nan → FP.Core.zval FP.Core.b64 (FP.Core.val64 r) = remZ x y → post r) : B_X9_remainderOf_26 post x u v := by
  unfold B_X9_remainderOf_26
  rw [zc_D fu.ne_nan nv, zc_D nx nn_0, cv_ge, cv_ge, FP.Core.zval64_zero]
  have hu := zs_D u
  have hv := zs_D v
  have hx := zs_D x
  refine ⟨fun h => ?_, fun h => hp x nx ?_⟩
  · obtain ⟨D, hD, hi⟩ : ∃ D : Nat, 0 < D ∧ FP.Core.DInt (D : Int) v := hw.resolve_right (by omega)
    obtain ⟨r1, r2, r3, r4⟩ := rest_ok fu (by rw [mu]; exact bu) hi hD pu h
    rw [mu, mv] at r4
    refine ⟨nn_D r1, nn_D r2, nn_D r3, fun g => hp _ r3 ?_, fun g => hp _ (n_neg r3) ?_⟩
    · unfold remZ; rw [if_neg (by omega)]; exact r4
    · unfold remZ; rw [if_pos (by omega), z_neg, r4]
  · have hlt : FP.Core.zmag FP.Core.b64 (FP.Core.val64 x) < FP.Core.zmag FP.Core.b64 (FP.Core.val64 y) := by omega
    unfold remZ
    rw [Nat.mod_eq_of_lt hlt]
    by_cases g : FP.Core.zval FP.Core.b64 (FP.Core.val64 x) < 0
    · rw [if_pos g]; omega
    · rw [if_neg g]; omega
theorem di_neg {i : Int} {y : UInt64} (h : FP.Core.DInt i y) : FP.Core.DInt (-i) (FP.dneg y) := by
  unfold FP.Core.DInt
  rw [FP.val64_dneg]
  exact FP.Core.whole_negate h
theorem q_remOf {x y : UInt64} (fx : FP.Core.DFin x) (bx : FP.Core.zmag FP.Core.b64 (FP.Core.val64 x) ≤ 1000000 * FP.Core.one64) (ny : FP.Core.val64 y ≠ .nan) (hw : (∃ i : Int, i ≠ 0 ∧ FP.Core.DInt i y) ∨ FP.Core.zmag FP.Core.b64 (FP.Core.val64 x) < FP.Core.zmag FP.Core.b64 (FP.Core.val64 y)) {post : UInt64 → Prop} (hp : ∀ r, FP.Core.val64 r ≠ .nan → FP.Core.zval FP.Core.b64 (FP.Core.val64 r) = remZ x y → post r) : P_X9_remainderOf x y post := by
  have nx := fx.ne_nan
  have hone := FP.Core.one64_pos
  have hst : ∀ u, FP.Core.DFin u → FP.Core.zmag FP.Core.b64 (FP.Core.val64 u) = FP.Core.zmag FP.Core.b64 (FP.Core.val64 x) → 0 ≤ FP.Core.zval FP.Core.b64 (FP.Core.val64 u) → B_X9_remainderOf_12 post x y u := by
    intro u fu mu pu
    unfold B_X9_remainderOf_12
    rw [zc_D ny nn_0, cv_ge, FP.Core.zval64_zero]
    have zp : ∀ i : Int, FP.Core.DInt i y → FP.Core.zval FP.Core.b64 (FP.Core.val64 y) = i * (FP.Core.one64 : Int) := fun i hi => FP.Core.DInt_zval hi
    have hone' : (0 : Int) < (FP.Core.one64 : Int) := by omega
    refine ⟨fun g => q_rem26 nx fu mu pu bx ny rfl g ?_ hp, fun g => q_rem26 nx fu mu pu bx (n_neg ny) (m_neg y) (by rw [z_neg]; omega) ?_ hp⟩
    · rcases hw with ⟨i, i0, hi⟩ | h
      · refine Or.inl ⟨i.toNat, ?_, ?_⟩
        · have := zp i hi
          rw [this] at g
          have : 0 ≤ i := Int.le_of_mul_le_mul_right (by rw [Int.zero_mul]; exact g) hone'
          omega
        · have := zp i hi
          rw [this] at g
          have : 0 ≤ i := Int.le_of_mul_le_mul_right (by rw [Int.zero_mul]; exact g) hone'
          rw [Int.toNat_of_nonneg this]; exact hi
      · exact Or.inr h
    · rcases hw with ⟨i, i0, hi⟩ | h
      · have hneg : i < 0 := by
          rcases Int.lt_or_le i 0 with z | z
          · exact z
          · exfalso
            apply g
            rw [zp i hi]
            exact Int.mul_nonneg z (by omega)
        refine Or.inl ⟨(-i).toNat, by omega, ?_⟩
        rw [Int.toNat_of_nonneg (by omega)]
        exact di_neg hi
      · exact Or.inr h
  unfold P_X9_remainderOf
  rw [zc_D nx nn_0, cv_ge, FP.Core.zval64_zero]
  exact ⟨fun g => hst x fx rfl g, fun g => hst _ (f_neg fx) (m_neg x) (by rw [z_neg]; omega)⟩
/-- the model's remainder -/
theorem rem_D {x y : UInt64} (fx : FP.Core.DFin x) (ny : FP.Core.val64 y ≠ .nan) (hz : ¬ FP.Core.DZero y) : FP.Core.val64 (FP.drem x y) ≠ .nan ∧ FP.Core.zval FP.Core.b64 (FP.Core.val64 (FP.drem x y)) = remZ x y := by
  obtain ⟨h1, h2, h3⟩ := FP.Core.drem_zval fx ny hz
  refine ⟨h1, ?_⟩
  have e : FP.Core.zval FP.Core.b64 (FP.Core.val64 (FP.drem x y)) = FP.Core.signed (FP.Core.sgn (FP.Core.val64 x)) (FP.Core.zmag FP.Core.b64 (FP.Core.val64 x) % FP.Core.zmag FP.Core.b64 (FP.Core.val64 y)) := by
    show FP.Core.signed (FP.Core.sgn (FP.Core.val64 (FP.Core.drem x y))) (FP.Core.zmag FP.Core.b64 (FP.Core.val64 (FP.Core.drem x y))) = _
    rw [h2, h3]
  rw [e]
  unfold remZ FP.Core.zval
  have hm := Nat.mod_le (FP.Core.zmag FP.Core.b64 (FP.Core.val64 x)) (FP.Core.zmag FP.Core.b64 (FP.Core.val64 y))
  generalize FP.Core.zmag FP.Core.b64 (FP.Core.val64 x) % FP.Core.zmag FP.Core.b64 (FP.Core.val64 y) = R at *
  generalize FP.Core.zmag FP.Core.b64 (FP.Core.val64 x) = X at *
  cases FP.Core.sgn (FP.Core.val64 x) with
  | false =>
    simp only [FP.Core.signed, Bool.false_eq_true, if_false]
    rw [if_neg (by omega)]
  | true =>
    simp only [FP.Core.signed, if_true]
    by_cases g : -(X : Int) < 0
    · rw [if_pos g]
    · rw [if_neg g]; omega
/-! floats as doubles -/
theorem f2d_z {a : UInt32} (h : FP.Core.FFin a) : FP.Core.DFin (FP.f2d a) ∧ FP.Core.zmag FP.Core.b64 (FP.Core.val64 (FP.f2d a)) = FP.Core.zmag FP.Core.b32 (FP.Core.val32 a) * 2 ^ 925 ∧ FP.Core.sgn (FP.Core.val64 (FP.f2d a)) = FP.Core.sgn (FP.Core.val32 a) := by
  rw [FP.f2d_core h.notNaN]
  have hf := FP.Core.val32_fits a
  have hfin := FP.Core.f2d_fin h
  obtain ⟨s, c, q, e⟩ := h
  rw [e] at hf
  have q1 : FP.Core.b32.qmin = -149 := FP.Core.qmin_b32
  have q2 : FP.Core.b64.qmin = -1074 := FP.Core.qmin_b64
  have q3 : FP.Core.b32.qmax = 104 := by decide
  have q4 : FP.Core.b64.qmax = 971 := by decide
  have hc : c < 2 ^ FP.Core.b64.p := Nat.lt_trans hf.1 (by decide)
  obtain ⟨c', q', h1, h2⟩ := FP.Core.round_exact FP.Core.good_b64 s (q := q) hc (by have := hf.2.1; omega) (by have := hf.2.2.1; omega)
  have hv : FP.Core.val64 (FP.Core.f2d a) = .fin s c' q' := by rw [FP.Core.val64_f2d, e]; exact h1
  refine ⟨hfin, ?_, by rw [hv, e]; rfl⟩
  rw [hv, e]
  show FP.Core.inUnits c' q' FP.Core.b64.qmin = FP.Core.inUnits c q FP.Core.b32.qmin * 2 ^ 925
  rw [h2, FP.Core.inUnits_move c (q := q) (r := FP.Core.b32.qmin) (e := FP.Core.b64.qmin) (by omega) hf.2.1, show (FP.Core.b32.qmin - FP.Core.b64.qmin).toNat = 925 by omega]
theorem one_32 : FP.Core.one32 * 2 ^ 925 = FP.Core.one64 := by
  unfold FP.Core.one32
  rw [one_split (a := 149) (b := 925) rfl]
theorem one_w (k : Nat) : k * FP.Core.one32 * 2 ^ 925 = k * FP.Core.one64 := by rw [Nat.mul_assoc, one_32]
theorem big_F {w : Int32} (h : 2 ^ 24 < w.toInt.natAbs) : 16777216 * FP.Core.one32 ≤ FP.Core.zmag FP.Core.b32 (FP.Core.val32 (FP.i2f w)) := by
  have hi := FP.Core.i2f_int (a := nI 16777216) (by decide)
  have hz := FP.Core.FInt_zval hi
  have hm := zs_F (FP.i2f (nI 16777216))
  rw [show FP.Core.zval FP.Core.b32 (FP.Core.val32 (FP.i2f (nI 16777216))) = _ from hz, show (nI 16777216).toInt = ((16777216 : Nat) : Int) by decide, ← Int.natCast_mul, Int.natAbs_natCast] at hm
  rw [hm]
  have hv : FP.Core.val32 (FP.i2f w) = FP.Core.roundRatio FP.Core.b32 (decide (w.toInt < 0)) w.toInt.natAbs 1 0 := FP.Core.val32_i2f w
  rw [hv]
  refine FP.Core.zmag_roundRatio_ge FP.Core.good_b32 (e0 := FP.Core.b32.qmin) (by decide) (FP.Core.val32_fits _) (Int.le_refl _) (by rw [FP.Core.qmin_b32]; decide) ?_
  rw [← hm, Int.sub_self, Int.toNat_zero, Nat.pow_zero, Nat.mul_one, Nat.mul_one]
  show _ ≤ w.toInt.natAbs * 2 ^ (0 - FP.Core.b32.qmin).toNat
  rw [Int.zero_sub, FP.Core.pow_qmin32]
  refine Nat.mul_le_mul_right _ ?_
  have : (2 : Nat) ^ 24 = 16777216 := by decide
  omega
theorem nz_i {w : Int32} (h : ¬ w = 0) : w.toInt ≠ 0 := FP.Core.int32_ne h
theorem nz_D {w : Int32} (h : ¬ w = 0) : ¬ FP.Core.DZero (FP.i2d w) := fun z => FP.Core.i2d_ne_zero h ((FP.Core.zero_bits2 _).mp z)
theorem nz_F {w : Int32} (h : ¬ w = 0) : ¬ FP.Core.FZero (FP.i2f w) := fun z => FP.Core.i2f_ne_zero h ((FP.Core.zero_bits232 _).mp z)
/-- a float's remainder -/
theorem rem_F {a : UInt32} (fa : FP.Core.FFin a) {w : Int32} (hw : ¬ w = 0) : FP.Core.val32 (FP.frem a (FP.i2f w)) ≠ .nan ∧ FP.Core.val64 (FP.f2d (FP.frem a (FP.i2f w))) ≠ .nan ∧ FP.Core.zval FP.Core.b64 (FP.Core.val64 (FP.f2d (FP.frem a (FP.i2f w)))) = remZ (FP.f2d a) (FP.f2d (FP.i2f w)) := by
  have fb : FP.Core.FFin (FP.i2f w) := FP.Core.i2f_fin w
  obtain ⟨h1, h2, h3⟩ := FP.Core.frem_zval fa fb.ne_nan (nz_F hw)
  have hfin : FP.Core.FFin (FP.frem a (FP.i2f w)) := by
    obtain ⟨s, c, q, ea⟩ := fa
    obtain ⟨t, d, r, eb⟩ := fb
    have hd : d ≠ 0 := fun z => nz_F hw ⟨t, r, by rw [show FP.Core.val32 (FP.i2f w) = _ from eb, z]⟩
    obtain ⟨c', q', e1, -⟩ := FP.Core.frem_exact ea eb hd
    exact ⟨s, c', q', e1⟩
  obtain ⟨d1, d2, d3⟩ := f2d_z hfin
  obtain ⟨x1, x2, x3⟩ := f2d_z fa
  obtain ⟨y1, y2, y3⟩ := f2d_z fb
  refine ⟨h1, d1.ne_nan, ?_⟩
  have hz : ¬ FP.Core.DZero (FP.f2d (FP.i2f w)) := fun z => by
    have e := FP.Core.DZero.zval z
    have e2 := zs_D (FP.f2d (FP.i2f w))
    rw [e, y2] at e2
    have e3 : FP.Core.zmag FP.Core.b32 (FP.Core.val32 (FP.i2f w)) = 0 := by
      rcases Nat.mul_eq_zero.mp e2.symm with q | q
      · exact q
      · exact absurd q (Nat.ne_of_gt (Nat.two_pow_pos _))
    have e4 := zs_F (FP.i2f w)
    rw [e3] at e4
    have e5 : FP.Core.zval FP.Core.b32 (FP.Core.val32 (FP.i2f w)) = 0 := Int.natAbs_eq_zero.mp e4
    exact FP.Core.i2f_ne_zero hw ((FP.Core.zval_eq_zero32 fb.ne_nan).mp e5)
  have key := rem_D x1 y1.ne_nan hz
  rw [← key.2]
  obtain ⟨k1, k2, k3⟩ := FP.Core.drem_zval x1 y1.ne_nan hz
  show FP.Core.signed (FP.Core.sgn (FP.Core.val64 (FP.f2d (FP.frem a (FP.i2f w))))) (FP.Core.zmag FP.Core.b64 (FP.Core.val64 (FP.f2d (FP.frem a (FP.i2f w))))) = FP.Core.signed (FP.Core.sgn (FP.Core.val64 (FP.Core.drem (FP.f2d a) (FP.f2d (FP.i2f w))))) (FP.Core.zmag FP.Core.b64 (FP.Core.val64 (FP.Core.drem (FP.f2d a) (FP.f2d (FP.i2f w)))))
  rw [d2, d3, k2, k3, x2, x3, y2, Nat.mul_mod_mul_right, show FP.Core.sgn (FP.Core.val32 (FP.frem a (FP.i2f w))) = _ from h2, show FP.Core.zmag FP.Core.b32 (FP.Core.val32 (FP.frem a (FP.i2f w))) = _ from h3]
theorem whole_F {a : UInt32} (ba : FP.Core.zmag FP.Core.b32 (FP.Core.val32 a) ≤ 1000000 * FP.Core.one32) (fa : FP.Core.FFin a) {w : Int32} (hw : ¬ w = 0) : (∃ i : Int, i ≠ 0 ∧ FP.Core.DInt i (FP.f2d (FP.i2f w))) ∨ FP.Core.zmag FP.Core.b64 (FP.Core.val64 (FP.f2d a)) < FP.Core.zmag FP.Core.b64 (FP.Core.val64 (FP.f2d (FP.i2f w))) := by
  have fb : FP.Core.FFin (FP.i2f w) := FP.Core.i2f_fin w
  rcases Nat.lt_or_ge (2 ^ 24) w.toInt.natAbs with h | h
  · refine Or.inr ?_
    have hb := big_F h
    rw [(f2d_z fa).2.1, (f2d_z fb).2.1]
    refine Nat.mul_lt_mul_of_pos_right ?_ (Nat.two_pow_pos _)
    have := FP.Core.one32_pos
    omega
  · refine Or.inl ⟨w.toInt, nz_i hw, ?_⟩
    rw [FP.f2d_core fb.notNaN]
    unfold FP.Core.DInt
    rw [FP.Core.val64_f2d]
    refine FP.Core.whole_round FP.Core.good_b64 FP.Core.wide_b64 (Nat.le_trans h (by decide)) (FP.Core.i2f_int h)
/-! the case -/
theorem MI.s67 {A : Abs} {σ : Dz} (h : MI A σ) (v : UInt64) : MI A (sz_d σ 67 0 v) := h.keep (fun k h1 h2 j => ⟨rfl, rfl, gd_cell (by omega)⟩) (fun _ _ => rfl)
theorem CI.s67 {A : Abs} {σ : Dz} (h : CI A σ) (v : UInt64) : CI A (sz_d σ 67 0 v) := h.keep (fun k h1 j => ⟨rfl, rfl, gd_cell (by omega)⟩)
theorem tl_d {τ : Dz} {k : Int32} {b : UInt64} {rc : Prop} (h1 : gz_i τ 43 0 = k) (h2 : k = 0 → Op.cmpValue (FP.dcmp (gz_d τ 67 0) b) CmpOp.l = 0) (h : rc) : P_X10_thrown τ (fun (r1848 : Int32) => ((r1848 = k → ((¬ k = 0 → rc) ∧ (k = 0 → (((Op.cmpValue (FP.dcmp (gz_d τ 67 ((0 : Int32)).toNatClampNeg) b) CmpOp.l) = 0 → rc) ∧ (¬ (Op.cmpValue (FP.dcmp (gz_d τ 67 ((0 : Int32)).toNatClampNeg) b) CmpOp.l) = 0 → (((Op.cmpValue (FP.dcmp (gz_d τ 67 ((0 : Int32)).toNatClampNeg) (gz_d τ 67 ((0 : Int32)).toNatClampNeg)) CmpOp.l) = 0 → False) ∧ (¬ (Op.cmpValue (FP.dcmp (gz_d τ 67 ((0 : Int32)).toNatClampNeg) (gz_d τ 67 ((0 : Int32)).toNatClampNeg)) CmpOp.l) = 0 → ((¬ (Op.cmpValue (FP.dcmp b b) CmpOp.l) = 0 → rc) ∧ ((Op.cmpValue (FP.dcmp b b) CmpOp.l) = 0 → False))))))))) ∧ (¬ r1848 = k → False))) := by
  unfold P_X10_thrown
  exact ⟨fun _ => ⟨fun _ => h, fun hk => ⟨fun _ => h, fun hn => absurd (h2 hk) hn⟩⟩, fun hn => hn h1⟩
theorem cs_remainder {L : Nat} {xs : Nat → Int32} {rc : Dz → Int32 → Prop} {σ : Dz} {y5 : Int32} (g1 : vp_in (y5 + 1) L) (g2 : vp_in (y5 + 2) L) (g3 : vp_in (y5 + 3) L) (hI : Inv σ) (hr : ∀ σ', Inv σ' → rc σ' (y5 + 4)) : B_L_law_1797 L xs rc σ y5 := by
  unfold B_L_law_1797 P_L_remainder P_X9_remainder P_X10_remainder B_X10_remainder_18 B_X10_remainder_31
  refine ⟨g1, g2, g3, ?_⟩
  generalize xs (y5 + 1).toNatClampNeg = x
  generalize xs (y5 + 2).toNatClampNeg = z
  generalize xs (y5 + 3).toNatClampNeg = w
  obtain ⟨A, o, c, m⟩ := hI
  have fin0 : ∀ (k : Int32), rc (sz_i σ 43 0 k) (y5 + 4) := fun k => hr _ ⟨A, o, c.byM ((eo_r 43 66 σ).si (by omega) (by omega) _ _), m.thr _⟩
  have fin1 : ∀ (v : UInt64), rc (sz_i (sz_d σ 67 0 v) 43 0 0) (y5 + 4) := fun v => hr _ ⟨A, o, (c.s67 v).byM ((eo_r 43 66 _).si (by omega) (by omega) _ _), (m.s67 v).thr _⟩
  have e0 : ∀ τ v, gz_i (sz_i τ 43 0 v) 43 0 = v := fun τ v => gi_same _ _ _ _
  rcases el_cases x z with ⟨i, hi, hx, rfl⟩ | ⟨hc, hm⟩
  · refine el_ok hx hi ?_
    have iin : ∀ post : Int32 → Prop, post 1 → P_X10_in (nI i) 0 23 post := fun post hp => in_yes (lo := 0) (hi := 23) (Nat.zero_le _) (by omega) (by decide) hp
    have irow : ∀ post : Int32 → Prop, post 1 → P_X10_isRow x post := fun post hp => by
      rcases hx with h | h
      · rw [h]; exact isRow_0 hp
      · rw [h]; exact isRow_1 hp
    by_cases hw : w = 0
    · refine bn_t hw (Or.inr ⟨rfl, g1, g2, g3, irow _ (br_f (by decide) (iin _ (bn_f (by decide) (bn_t hw (br_f (by rw [e0]; decide) ?_)))))⟩)
      exact tl_d (gi_same _ _ _ _) (fun h => absurd h (by decide)) (fin0 2)
    · refine bn_f hw ?_
      rcases hx with rfl | rfl
      · have hok := o.fl i hi
        obtain ⟨fa, ba⟩ := ko_F hok
        have fb : FP.Core.FFin (FP.i2f w) := FP.Core.i2f_fin w
        obtain ⟨x1, x2, x3⟩ := f2d_z fa
        obtain ⟨y1, y2, y3⟩ := f2d_z fb
        refine bn_t rfl ⟨vp_in_nI hi (by omega), ?_⟩
        rw [nI_clamp (by omega), c.fl i hi]
        refine ⟨nn_D x1.ne_nan, nn_D y1.ne_nan, q_remOf x1 (by rw [x2, ← one_w]; exact Nat.mul_le_mul_right _ ba) y1.ne_nan (whole_F ba fa hw) fun r nr zr => ?_⟩
        refine ⟨g1, g2, g3, irow _ (br_f (by decide) (iin _ (bn_f (by decide) (bn_f hw (br_t (e0 _ _) (bn_t rfl ⟨vp_in_nI hi (by omega), ?_⟩))))))⟩
        obtain ⟨r1, r2, r3⟩ := rem_F fa hw
        rw [show gz_f (sz_i (sz_d σ 67 ((0 : Int32)).toNatClampNeg r) 43 0 0) 50 i = A.fl i from m.fl i hi]
        refine ⟨nn_F r1, nn_D r2, tl_d (gi_same _ _ _ _) (fun _ => ?_) (fin1 r)⟩
        rw [show gz_d (sz_i (sz_d σ 67 ((0 : Int32)).toNatClampNeg r) 43 0 0) 67 0 = r from gd_same _ _ _ _, zc_D nr r2, cv_eq, zr, r3]
      · have hok := o.db i hi
        obtain ⟨fa, ba⟩ := ko_D hok
        have fb := FP.Core.i2d_fin w
        refine bn_f (by decide) ⟨vp_in_nI hi (by omega), ?_⟩
        rw [nI_clamp (by omega), c.db i hi]
        refine q_remOf fa ba fb.ne_nan (Or.inl ⟨w.toInt, nz_i hw, FP.Core.i2d_int w⟩) fun r nr zr => ?_
        refine ⟨g1, g2, g3, irow _ (br_f (by decide) (iin _ (bn_f (by decide) (bn_f hw (br_t (e0 _ _) (bn_f (by decide) ⟨vp_in_nI hi (by omega), ?_⟩))))))⟩
        obtain ⟨r2, r3⟩ := rem_D fa fb.ne_nan (nz_D hw)
        rw [show gz_d (sz_i (sz_d σ 67 ((0 : Int32)).toNatClampNeg r) 43 0 0) 51 i = A.db i from (gd_cell (by omega)).trans (m.db i hi)]
        refine ⟨nn_D r2, tl_d (gi_same _ _ _ _) (fun _ => ?_) (fin1 r)⟩
        rw [show gz_d (sz_i (sz_d σ 67 ((0 : Int32)).toNatClampNeg r) 43 0 0) 67 0 = r from gd_same _ _ _ _, zc_D nr r2, cv_eq, zr, r3]
  · refine hc _ _ (Or.inl ⟨rfl, g1, g2, g3, ?_⟩)
    rcases hm with h | ⟨hx, hz⟩
    · exact isRow_no h (br_t rfl (br_f (by rw [e0]; decide) (tl_d (gi_same _ _ _ _) (fun h => absurd h (by decide)) (fin0 1))))
    · have irow : ∀ post : Int32 → Prop, post 1 → P_X10_isRow x post := fun post hp => by
        rcases hx with h | h
        · rw [h]; exact isRow_0 hp
        · rw [h]; exact isRow_1 hp
      exact irow _ (br_f (by decide) (in_no (lo := 0) (hi := 23) hz (bn_t rfl (br_f (by rw [e0]; decide) (tl_d (gi_same _ _ _ _) (fun h => absurd h (by decide)) (fin0 1))))))
end QRemCase
