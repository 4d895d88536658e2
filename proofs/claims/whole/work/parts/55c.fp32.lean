/-! floating point, 32 bits: values in units of the least number -/
section QFp32
theorem nn_F {r : UInt32} (h : FP.Core.val32 r ≠ .nan) : vf_n32 r := by
  have := (FP.Core.ne_nan32 r).mp h
  unfold vf_n32
  rw [UInt32.le_iff_toNat_le, FP.Core.mask_toNat32]
  exact this
theorem zc_F {a b : UInt32} (ha : FP.Core.val32 a ≠ .nan) (hb : FP.Core.val32 b ≠ .nan) : FP.fcmp a b = some (compare (FP.Core.zval FP.Core.b32 (FP.Core.val32 a)) (FP.Core.zval FP.Core.b32 (FP.Core.val32 b))) := FP.Core.fcmp_zval ha hb
theorem cm_F : FP.Core.zval FP.Core.b32 (FP.Core.val32 1232348160) = 1000000 * (FP.Core.one32 : Int) := by decide +kernel
theorem cn_F : FP.Core.zval FP.Core.b32 (FP.Core.val32 3379831808) = -(1000000 * (FP.Core.one32 : Int)) := by decide +kernel
theorem cf_F : FP.Core.val32 1232348160 ≠ .nan := by decide +kernel
theorem cg_F : FP.Core.val32 3379831808 ≠ .nan := by decide +kernel
theorem ct_F : 1000000 * FP.Core.one32 < FP.Core.b32.tails * 2 ^ (FP.Core.b32.exps - 2) := by decide +kernel
theorem zs_F (a : UInt32) : (FP.Core.zval FP.Core.b32 (FP.Core.val32 a)).natAbs = FP.Core.zmag FP.Core.b32 (FP.Core.val32 a) := FP.Core.natAbs_signed _ _
/-- at most a million -/
theorem ok_F {a : UInt32} (hn : FP.Core.val32 a ≠ .nan) (h : FP.Core.zmag FP.Core.b32 (FP.Core.val32 a) ≤ 1000000 * FP.Core.one32) : fpOK FP.Core.b32 a.toNat := by
  have hf := FP.Core.val32_fits a
  show ∃ s c q, FP.Core.val32 a = .fin s c q ∧ _
  cases hv : FP.Core.val32 a with
  | nan => exact absurd hv hn
  | inf s =>
    rw [hv] at h
    have := ct_F
    exact absurd h (Nat.not_le_of_lt this)
  | fin s c q =>
    rw [hv] at h hf
    refine ⟨s, c, q, rfl, (ok_units hf.2.1 (FP.Core.qmin_neg FP.Core.good_b32)).mpr ?_⟩
    rw [FP.Core.pow_qmin32]; exact h
theorem ko_F {a : UInt32} (h : fpOK FP.Core.b32 a.toNat) : FP.Core.FFin a ∧ FP.Core.zmag FP.Core.b32 (FP.Core.val32 a) ≤ 1000000 * FP.Core.one32 := by
  obtain ⟨s, c, q, h1, h2⟩ := h
  have h1 : FP.Core.val32 a = .fin s c q := h1
  have hf := FP.Core.val32_fits a
  refine ⟨⟨s, c, q, h1⟩, ?_⟩
  rw [h1] at hf ⊢
  have := (ok_units hf.2.1 (FP.Core.qmin_neg FP.Core.good_b32)).mp h2
  rw [FP.Core.pow_qmin32] at this
  exact this
/-- a share: at most a million -/
theorem sh_F {u v : Nat} (hu : u ≤ 5040) (hv0 : 0 < v) (hv : v ≤ 5040) : FP.Core.val32 (FP.fdiv (FP.i2f (nI u)) (FP.i2f (nI v))) ≠ .nan ∧ fpOK FP.Core.b32 (FP.fdiv (FP.i2f (nI u)) (FP.i2f (nI v))).toNat := by
  have iu := nI_toInt (show u < 2 ^ 31 by omega)
  have iv := nI_toInt (show v < 2 ^ 31 by omega)
  have e13 : (2 : Nat) ^ 13 = 8192 := by decide
  have a1 := FP.Core.fromInt_mag32 (FP.Core.toNat_i2f (nI u)) (j := 13) (K := 140) (by rw [iu]; omega) (by decide) (by decide)
  have a2 := FP.Core.fromInt_ge32 (FP.Core.toNat_i2f (nI v)) (by rw [iv]; omega)
  have a3 := FP.Core.i2f_big (v := nI v) (by rw [iv]; omega)
  have a4 := FP.Core.fdiv_mag (a := FP.Core.i2f (nI u)) (b := FP.Core.i2f (nI v)) (K := 140 + 1) (L := 127) (by omega) (by omega) (by omega) (by decide) (by decide)
  obtain ⟨s, c, q, h1, h2⟩ := FP.Core.mag_bits32 a4 (by decide)
  have hn : FP.Core.val32 (FP.fdiv (FP.i2f (nI u)) (FP.i2f (nI v))) ≠ .nan := by rw [show FP.Core.val32 (FP.fdiv (FP.i2f (nI u)) (FP.i2f (nI v))) = _ from h1]; exact FP.Core.Datum.noConfusion
  refine ⟨hn, ok_F hn ?_⟩
  rw [show FP.Core.val32 (FP.fdiv (FP.i2f (nI u)) (FP.i2f (nI v))) = _ from h1]
  refine Nat.le_trans (Nat.le_of_lt h2) ?_
  decide +kernel
theorem fp0_F : fpOK FP.Core.b32 (0 : UInt32).toNat := ok_F (by decide +kernel) (by decide +kernel)
/-- the class: scale -/
theorem q_scaleF {σ : Dz} {a : UInt32} {i : Nat} (hi : i < 24) (ga : gz_f σ 41 i = a) (x2 : Int32) (hp : FP.Core.val32 (FP.fmul a (FP.i2f x2)) ≠ .nan) {post : Int32 → Dz → Prop} {px : String → Dz → Prop} (h1 : FP.Core.zmag FP.Core.b32 (FP.Core.val32 (FP.fmul a (FP.i2f x2))) ≤ 1000000 * FP.Core.one32 → post (FP.f2i (FP.fmul a (FP.i2f x2))) (sz_f σ 41 i (FP.fmul a (FP.i2f x2)))) (h2 : ¬ FP.Core.zmag FP.Core.b32 (FP.Core.val32 (FP.fmul a (FP.i2f x2))) ≤ 1000000 * FP.Core.one32 → px "java/lang/ArithmeticException" σ) : P_X9_scaleFloat σ (nI i) x2 post px := by
  unfold P_X9_scaleFloat B_X9_scaleFloat_22
  rw [nI_clamp (by omega), ga]
  generalize FP.fmul a (FP.i2f x2) = p at *
  have z0 : FP.Core.val32 0 ≠ .nan := by decide +kernel
  have hz := zs_F p
  have hvn := FP.val32_fneg p
  have hnn : FP.Core.val32 (FP.fneg p) ≠ .nan := by rw [hvn]; exact FP.Core.negate_ne_nan hp
  have hzn : FP.Core.zval FP.Core.b32 (FP.Core.val32 (FP.fneg p)) = -FP.Core.zval FP.Core.b32 (FP.Core.val32 p) := by rw [hvn, FP.Core.zval_negate]
  rw [zc_F hp z0, zc_F hp cf_F, zc_F hnn cf_F, cv_ge, cv_le, cv_le, FP.Core.zval32_zero, cm_F, hzn]
  refine ⟨vp_in_nI hi (by omega), nn_F hp, fun g => ⟨fun k => ⟨vp_in_nI hi (by omega), h1 (by omega)⟩, fun k => h2 (by omega)⟩, fun g => ⟨fun k => ⟨vp_in_nI hi (by omega), h1 (by omega)⟩, fun k => h2 (by omega)⟩⟩
/-- the model: scale -/
theorem m_scaleF {σ : Dz} {a : UInt32} {i : Nat} (hi : i < 24) (ga : gz_f σ 50 i = a) (x3 : Int32) (hp : FP.Core.val32 (FP.fmul a (FP.i2f x3)) ≠ .nan) {post : Int32 → Dz → Prop} (h1 : FP.Core.zmag FP.Core.b32 (FP.Core.val32 (FP.fmul a (FP.i2f x3))) ≤ 1000000 * FP.Core.one32 → post (FP.f2i (FP.fmul a (FP.i2f x3))) (sz_i (sz_f σ 50 i (FP.fmul a (FP.i2f x3))) 43 0 0)) (h2 : ¬ FP.Core.zmag FP.Core.b32 (FP.Core.val32 (FP.fmul a (FP.i2f x3))) ≤ 1000000 * FP.Core.one32 → post 0 (sz_i σ 43 0 3)) :
    (vp_in (nI i) 24 ∧ (vf_n32 (FP.fmul (gz_f σ 50 (nI i).toNatClampNeg) (FP.i2f x3)) ∧ ((0 < (Op.cmpValue (FP.fcmp (FP.fmul (gz_f σ 50 (nI i).toNatClampNeg) (FP.i2f x3)) (1232348160 : UInt32)) CmpOp.l) → (P_X10_fails σ (3 : Int32) (fun (r126 : Int32) (τ126 : Dz) => post r126 τ126))) ∧ (¬ 0 < (Op.cmpValue (FP.fcmp (FP.fmul (gz_f σ 50 (nI i).toNatClampNeg) (FP.i2f x3)) (1232348160 : UInt32)) CmpOp.l) → ((0 ≤ (Op.cmpValue (FP.fcmp (FP.fmul (gz_f σ 50 (nI i).toNatClampNeg) (FP.i2f x3)) (3379831808 : UInt32)) CmpOp.g) → (vp_in (nI i) 24 ∧ (P_X10_done (sz_f σ 50 (nI i).toNatClampNeg (FP.fmul (gz_f σ 50 (nI i).toNatClampNeg) (FP.i2f x3))) (FP.f2i (FP.fmul (gz_f σ 50 (nI i).toNatClampNeg) (FP.i2f x3))) (fun (r142 : Int32) (τ142 : Dz) => post r142 τ142)))) ∧ (¬ 0 ≤ (Op.cmpValue (FP.fcmp (FP.fmul (gz_f σ 50 (nI i).toNatClampNeg) (FP.i2f x3)) (3379831808 : UInt32)) CmpOp.g) → (P_X10_fails σ (3 : Int32) (fun (r126 : Int32) (τ126 : Dz) => post r126 τ126)))))))) := by
  rw [nI_clamp (by omega), ga]
  generalize FP.fmul a (FP.i2f x3) = p at *
  have hz := zs_F p
  rw [zc_F hp cf_F, zc_F hp cg_F, cv_gt, cv_ge, cm_F, cn_F]
  refine ⟨vp_in_nI hi (by omega), nn_F hp, fun g => h2 (by omega), fun g => ⟨fun k => ⟨vp_in_nI hi (by omega), h1 (by omega)⟩, fun k => h2 (by omega)⟩⟩
end QFp32
