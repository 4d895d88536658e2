/-! floating point, 64 bits: values in units of the least number -/
section QFp64
theorem nn_D {r : UInt64} (h : FP.Core.val64 r ≠ .nan) : vf_n64 r := by
  have := (FP.Core.ne_nan r).mp h
  unfold vf_n64
  rw [UInt64.le_iff_toNat_le, FP.Core.mask_toNat]
  exact this
theorem zc_D {a b : UInt64} (ha : FP.Core.val64 a ≠ .nan) (hb : FP.Core.val64 b ≠ .nan) : FP.dcmp a b = some (compare (FP.Core.zval FP.Core.b64 (FP.Core.val64 a)) (FP.Core.zval FP.Core.b64 (FP.Core.val64 b))) := FP.Core.dcmp_zval ha hb
theorem cm_D : FP.Core.zval FP.Core.b64 (FP.Core.val64 4696837146684686336) = 1000000 * (FP.Core.one64 : Int) := by decide +kernel
theorem cn_D : FP.Core.zval FP.Core.b64 (FP.Core.val64 13920209183539462144) = -(1000000 * (FP.Core.one64 : Int)) := by decide +kernel
theorem cf_D : FP.Core.val64 4696837146684686336 ≠ .nan := by decide +kernel
theorem cg_D : FP.Core.val64 13920209183539462144 ≠ .nan := by decide +kernel
theorem ct_D : 1000000 * FP.Core.one64 < FP.Core.b64.tails * 2 ^ (FP.Core.b64.exps - 2) := by decide +kernel
theorem zs_D (a : UInt64) : (FP.Core.zval FP.Core.b64 (FP.Core.val64 a)).natAbs = FP.Core.zmag FP.Core.b64 (FP.Core.val64 a) := FP.Core.natAbs_signed _ _
/-- at most a million -/
theorem ok_D {a : UInt64} (hn : FP.Core.val64 a ≠ .nan) (h : FP.Core.zmag FP.Core.b64 (FP.Core.val64 a) ≤ 1000000 * FP.Core.one64) : fpOK FP.Core.b64 a.toNat := by
  have hf := FP.Core.val64_fits a
  show ∃ s c q, FP.Core.val64 a = .fin s c q ∧ _
  cases hv : FP.Core.val64 a with
  | nan => exact absurd hv hn
  | inf s =>
    rw [hv] at h
    have := ct_D
    exact absurd h (Nat.not_le_of_lt this)
  | fin s c q =>
    rw [hv] at h hf
    refine ⟨s, c, q, rfl, (ok_units hf.2.1 (FP.Core.qmin_neg FP.Core.good_b64)).mpr ?_⟩
    rw [FP.Core.pow_qmin64]; exact h
theorem ko_D {a : UInt64} (h : fpOK FP.Core.b64 a.toNat) : FP.Core.DFin a ∧ FP.Core.zmag FP.Core.b64 (FP.Core.val64 a) ≤ 1000000 * FP.Core.one64 := by
  obtain ⟨s, c, q, h1, h2⟩ := h
  have h1 : FP.Core.val64 a = .fin s c q := h1
  have hf := FP.Core.val64_fits a
  refine ⟨⟨s, c, q, h1⟩, ?_⟩
  rw [h1] at hf ⊢
  have := (ok_units hf.2.1 (FP.Core.qmin_neg FP.Core.good_b64)).mp h2
  rw [FP.Core.pow_qmin64] at this
  exact this
/-- a share: at most a million -/
theorem sh_D {u v : Nat} (hu : u ≤ 5040) (hv0 : 0 < v) (hv : v ≤ 5040) : FP.Core.val64 (FP.ddiv (FP.i2d (nI u)) (FP.i2d (nI v))) ≠ .nan ∧ fpOK FP.Core.b64 (FP.ddiv (FP.i2d (nI u)) (FP.i2d (nI v))).toNat := by
  have iu := nI_toInt (show u < 2 ^ 31 by omega)
  have iv := nI_toInt (show v < 2 ^ 31 by omega)
  have e13 : (2 : Nat) ^ 13 = 8192 := by decide
  have a1 := FP.Core.fromInt_mag (FP.Core.toNat_i2d (nI u)) (j := 13) (K := 1036) (by rw [iu]; omega) (by decide) (by decide)
  have a2 := FP.Core.fromInt_ge (FP.Core.toNat_i2d (nI v)) (by rw [iv]; omega)
  have a3 := FP.Core.i2d_big (v := nI v) (by rw [iv]; omega)
  have a4 := FP.Core.ddiv_mag (a := FP.Core.i2d (nI u)) (b := FP.Core.i2d (nI v)) (K := 1036 + 1) (L := 1023) (by omega) (by omega) (by omega) (by decide) (by decide)
  obtain ⟨s, c, q, h1, h2⟩ := FP.Core.mag_bits a4 (by decide)
  have hn : FP.Core.val64 (FP.ddiv (FP.i2d (nI u)) (FP.i2d (nI v))) ≠ .nan := by rw [show FP.Core.val64 (FP.ddiv (FP.i2d (nI u)) (FP.i2d (nI v))) = _ from h1]; exact FP.Core.Datum.noConfusion
  refine ⟨hn, ok_D hn ?_⟩
  rw [show FP.Core.val64 (FP.ddiv (FP.i2d (nI u)) (FP.i2d (nI v))) = _ from h1]
  refine Nat.le_trans (Nat.le_of_lt h2) ?_
  decide +kernel
theorem fp0_D : fpOK FP.Core.b64 (0 : UInt64).toNat := ok_D (by decide +kernel) (by decide +kernel)
/-- the class: scale -/
theorem q_scaleD {σ : Dz} {a : UInt64} {i : Nat} (hi : i < 24) (ga : gz_d σ 42 i = a) (x2 : Int32) (hp : FP.Core.val64 (FP.dmul a (FP.i2d x2)) ≠ .nan) {post : Int32 → Dz → Prop} {px : String → Dz → Prop} (h1 : FP.Core.zmag FP.Core.b64 (FP.Core.val64 (FP.dmul a (FP.i2d x2))) ≤ 1000000 * FP.Core.one64 → post (FP.d2i (FP.dmul a (FP.i2d x2))) (sz_d σ 42 i (FP.dmul a (FP.i2d x2)))) (h2 : ¬ FP.Core.zmag FP.Core.b64 (FP.Core.val64 (FP.dmul a (FP.i2d x2))) ≤ 1000000 * FP.Core.one64 → px "java/lang/ArithmeticException" σ) : P_X9_scaleDouble σ (nI i) x2 post px := by
  unfold P_X9_scaleDouble B_X9_scaleDouble_22
  rw [nI_clamp (by omega), ga]
  generalize FP.dmul a (FP.i2d x2) = p at *
  have z0 : FP.Core.val64 0 ≠ .nan := by decide +kernel
  have hz := zs_D p
  have hvn := FP.val64_dneg p
  have hnn : FP.Core.val64 (FP.dneg p) ≠ .nan := by rw [hvn]; exact FP.Core.negate_ne_nan hp
  have hzn : FP.Core.zval FP.Core.b64 (FP.Core.val64 (FP.dneg p)) = -FP.Core.zval FP.Core.b64 (FP.Core.val64 p) := by rw [hvn, FP.Core.zval_negate]
  rw [zc_D hp z0, zc_D hp cf_D, zc_D hnn cf_D, cv_ge, cv_le, cv_le, FP.Core.zval64_zero, cm_D, hzn]
  refine ⟨vp_in_nI hi (by omega), nn_D hp, fun g => ⟨fun k => ⟨vp_in_nI hi (by omega), h1 (by omega)⟩, fun k => h2 (by omega)⟩, fun g => ⟨fun k => ⟨vp_in_nI hi (by omega), h1 (by omega)⟩, fun k => h2 (by omega)⟩⟩
/-- the model: scale -/
theorem m_scaleD {σ : Dz} {a : UInt64} {i : Nat} (hi : i < 24) (ga : gz_d σ 51 i = a) (x3 : Int32) (hp : FP.Core.val64 (FP.dmul a (FP.i2d x3)) ≠ .nan) {post : Int32 → Dz → Prop} (h1 : FP.Core.zmag FP.Core.b64 (FP.Core.val64 (FP.dmul a (FP.i2d x3))) ≤ 1000000 * FP.Core.one64 → post (FP.d2i (FP.dmul a (FP.i2d x3))) (sz_i (sz_d σ 51 i (FP.dmul a (FP.i2d x3))) 43 0 0)) (h2 : ¬ FP.Core.zmag FP.Core.b64 (FP.Core.val64 (FP.dmul a (FP.i2d x3))) ≤ 1000000 * FP.Core.one64 → post 0 (sz_i σ 43 0 3)) :
    (vp_in (nI i) 24 ∧ (vf_n64 (FP.dmul (gz_d σ 51 (nI i).toNatClampNeg) (FP.i2d x3)) ∧ ((0 < (Op.cmpValue (FP.dcmp (FP.dmul (gz_d σ 51 (nI i).toNatClampNeg) (FP.i2d x3)) (4696837146684686336 : UInt64)) CmpOp.l) → (P_X10_fails σ (3 : Int32) (fun (r126 : Int32) (τ126 : Dz) => post r126 τ126))) ∧ (¬ 0 < (Op.cmpValue (FP.dcmp (FP.dmul (gz_d σ 51 (nI i).toNatClampNeg) (FP.i2d x3)) (4696837146684686336 : UInt64)) CmpOp.l) → ((0 ≤ (Op.cmpValue (FP.dcmp (FP.dmul (gz_d σ 51 (nI i).toNatClampNeg) (FP.i2d x3)) (13920209183539462144 : UInt64)) CmpOp.g) → (vp_in (nI i) 24 ∧ (P_X10_done (sz_d σ 51 (nI i).toNatClampNeg (FP.dmul (gz_d σ 51 (nI i).toNatClampNeg) (FP.i2d x3))) (FP.d2i (FP.dmul (gz_d σ 51 (nI i).toNatClampNeg) (FP.i2d x3))) (fun (r142 : Int32) (τ142 : Dz) => post r142 τ142)))) ∧ (¬ 0 ≤ (Op.cmpValue (FP.dcmp (FP.dmul (gz_d σ 51 (nI i).toNatClampNeg) (FP.i2d x3)) (13920209183539462144 : UInt64)) CmpOp.g) → (P_X10_fails σ (3 : Int32) (fun (r126 : Int32) (τ126 : Dz) => post r126 τ126)))))))) := by
  rw [nI_clamp (by omega), ga]
  generalize FP.dmul a (FP.i2d x3) = p at *
  have hz := zs_D p
  rw [zc_D hp cf_D, zc_D hp cg_D, cv_gt, cv_ge, cm_D, cn_D]
  refine ⟨vp_in_nI hi (by omega), nn_D hp, fun g => h2 (by omega), fun g => ⟨fun k => ⟨vp_in_nI hi (by omega), h1 (by omega)⟩, fun k => h2 (by omega)⟩⟩
end QFp64
