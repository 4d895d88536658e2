/-! rows of 32 bits: fillShares, scale -/
section QFill32
def shF (F : QL) (j : Nat) : UInt32 := FP.fdiv (FP.i2f (nI (cntD F j))) (FP.i2f (nI F.length))
theorem shF_ok {n : Nat} {F : QL} (f : AllF n F) (j : Nat) : FP.Core.val32 (shF F j) ≠ .nan ∧ fpOK FP.Core.b32 (shF F j).toNat := sh_F (f.cnt j) f.ps f.le
theorem q_fillF {A : Abs} (o : okA A) {σ : Dz} (T : CTab A.n A.S.df A.S.ef σ) {post : Int32 → Dz → Prop} {px : String → Dz → Prop} (hp : ∀ σ', eqO 41 (41 + 1) σ σ' → (∀ j, j < 24 → gz_f σ' 41 j = shF (allQ A.S.df A.S.ef) j) → post (nI (topD (allQ A.S.df A.S.ef) + 1 - 24)) σ') : ∀ k j τ, j + k = 24 → eqO 41 (41 + 1) σ τ → (∀ i, i < j → gz_f τ 41 i = shF (allQ A.S.df A.S.ef) i) → L_X9_fillShares_17 post px (k + 1) τ 0 (nI (allQ A.S.df A.S.ef).length) (nI j) := by
  have f := all_facts o.S o.n1 o.n2
  have ft := f.tp
  intro k
  induction k with
  | zero =>
    intro j τ hj e v
    show B_X9_fillShares_17 _ _ _ _ _ _ _
    unfold B_X9_fillShares_17 B_X9_fillShares_75 P_X2_lastLevel
    have : j = 24 := by omega
    subst this
    refine br_f f.nz (br_t (by simp (disch := omega) only [fa_lit, nI_add, pk_mul, nI_ltI, nI_leI, nI_eq] <;> omega) ?_)
    have T' : CTab A.n A.S.df A.S.ef τ := T.keep fun q a b i => e.i (by omega) i
    rw [T'.ll]
    show post (if (0 : Int32) < nI (topD (allQ A.S.df A.S.ef)) + 1 - 24 then nI (topD (allQ A.S.df A.S.ef)) + 1 - 24 else 0) τ
    rw [nI_1]
    have hif : (if (0 : Int32) < nI (topD (allQ A.S.df A.S.ef) + 1) - 24 then nI (topD (allQ A.S.df A.S.ef) + 1) - 24 else 0) = nI (topD (allQ A.S.df A.S.ef) + 1 - 24) := by
      generalize topD (allQ A.S.df A.S.ef) = t at *
      by_cases h : 24 ≤ t + 1
      · rw [show (24 : Int32) = nI 24 from rfl, pk_sub h]
        by_cases h2 : 24 < t + 1
        · rw [if_pos (by rw [show (0 : Int32) = nI 0 from rfl, nI_ltI (by omega) (by omega)]; omega)]
        · rw [show t + 1 - 24 = 0 by omega]; rfl
      · rw [if_neg, show t + 1 - 24 = 0 by omega]
        · rfl
        · rw [fa_lt, fb_subI, nI_toInt (by omega)]
          · have : (24 : Int32).toInt = 24 := by decide
            have : (0 : Int32).toInt = 0 := by decide
            omega
          · have : (24 : Int32).toInt = 24 := by decide
            rw [nI_toInt (by omega)]; omega
          · have : (24 : Int32).toInt = 24 := by decide
            rw [nI_toInt (by omega)]; omega
    rw [hif]
    exact hp τ e v
  | succ k ih =>
    intro j τ hj e v
    show B_X9_fillShares_17 _ _ _ _ _ _ _
    unfold B_X9_fillShares_17 B_X9_fillShares_69
    have T' : CTab A.n A.S.df A.S.ef τ := T.keep fun q a b i => e.i (by omega) i
    refine br_f f.nz (br_f (by simp (disch := omega) only [fa_lit, nI_add, pk_mul, nI_ltI, nI_leI, nI_eq] <;> omega) (q_sizeOfLevel o T' (by omega) (bn_t rfl ?_)))
    rw [nI_clamp (by omega), nI_1]
    refine ⟨nn_F (shF_ok f j).1, vp_in_nI (by omega) (by omega), ih (j + 1) _ (by omega) (e.sf (by omega) (by omega) _ _) fun i hi => ?_⟩
    by_cases hi2 : i = j
    · rw [hi2, gf_same]; rfl
    · rw [gf_pl hi2]; exact v i (by omega)
theorem m_fillF {A : Abs} (o : okA A) {σ : Dz} (T : MTab A.n A.S.df A.S.ef σ) {post : Int32 → Dz → Prop} (hp : ∀ σ', eqO 50 (50 + 1) σ σ' → (∀ j, j < 24 → gz_f σ' 50 j = shF (allQ A.S.df A.S.ef) j) → post (nI (topD (allQ A.S.df A.S.ef) + 1 - 24)) (sz_i σ' 43 0 0)) : ∀ k j τ, j + k = 24 → eqO 50 (50 + 1) σ τ → (∀ i, i < j → gz_f τ 50 i = shF (allQ A.S.df A.S.ef) i) → L_X10_fillShares_19 post (k + 1) τ 0 (nI j) := by
  have f := all_facts o.S o.n1 o.n2
  have ft := f.tp
  intro k
  induction k with
  | zero =>
    intro j τ hj e v
    show B_X10_fillShares_19 _ _ _ _ _
    unfold B_X10_fillShares_19 P_X10_done
    have : j = 24 := by omega
    subst this
    refine br_t (by simp (disch := omega) only [fa_lit, nI_add, pk_mul, nI_ltI, nI_leI, nI_eq] <;> omega) ?_
    have T' : MTab A.n A.S.df A.S.ef τ := T.keep (e.i (by omega) _) (e.i (by omega) _) (fun i => e.i (by omega) i) (fun i => e.i (by omega) i)
    rw [T'.ll]
    have hq := hp τ e v
    generalize topD (allQ A.S.df A.S.ef) = t at *
    by_cases h : 24 ≤ t
    · refine br_t (by simp (disch := omega) only [fa_lit, nI_add, pk_mul, nI_ltI, nI_leI, nI_eq] <;> omega) ?_
      rw [show (24 : Int32) = nI 24 from rfl, pk_sub h, nI_1, show t - 24 + 1 = t + 1 - 24 by omega]
      exact hq
    · refine br_f (by simp (disch := omega) only [fa_lit, nI_add, pk_mul, nI_ltI, nI_leI, nI_eq] <;> omega) ?_
      rw [show t + 1 - 24 = 0 by omega] at hq
      exact hq
  | succ k ih =>
    intro j τ hj e v
    show B_X10_fillShares_19 _ _ _ _ _
    unfold B_X10_fillShares_19 B_X10_fillShares_70
    have T' : MTab A.n A.S.df A.S.ef τ := T.keep (e.i (by omega) _) (e.i (by omega) _) (fun i => e.i (by omega) i) (fun i => e.i (by omega) i)
    refine br_f (by simp (disch := omega) only [fa_lit, nI_add, pk_mul, nI_ltI, nI_leI, nI_eq] <;> omega) (bn_t rfl ?_)
    rw [T'.sz, nI_clamp (by omega), T'.ct j (by omega), nI_1]
    refine ⟨vp_in_nI (by omega) (by omega), nn_F (shF_ok f j).1, vp_in_nI (by omega) (by omega), ih (j + 1) _ (by omega) (e.sf (by omega) (by omega) _ _) fun i hi => ?_⟩
    by_cases hi2 : i = j
    · rw [hi2, gf_same]; rfl
    · rw [gf_pl hi2]; exact v i (by omega)
theorem mul_nnF {a : UInt32} (h : fpOK FP.Core.b32 a.toNat) (x : Int32) : FP.Core.val32 (FP.fmul a (FP.i2f x)) ≠ .nan := (FP.Core.notNaN_iff32 _).mp (FP.Core.fmul_out (ko_F h).1 (FP.Core.i2f_fin x))
end QFill32
