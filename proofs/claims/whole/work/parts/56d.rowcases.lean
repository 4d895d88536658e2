/-! averageDepth, fillShares, scale -/
section QRowCases
def wFl (A : Abs) (g : Nat → UInt32) : Abs := (A.n, A.S, (A.tl, A.tx), A.er, A.sv, g, A.db)
def wDb (A : Abs) (g : Nat → UInt64) : Abs := (A.n, A.S, (A.tl, A.tx), A.er, A.sv, A.fl, g)
theorem okA.wFl {A : Abs} (o : okA A) {g : Nat → UInt32} (h : ∀ j, j < 24 → fpOK FP.Core.b32 (g j).toNat) : okA (wFl A g) := ⟨o.n1, o.n2, o.S, o.tl, o.tx, o.er, o.sv, h, o.db⟩
theorem okA.wDb {A : Abs} (o : okA A) {g : Nat → UInt64} (h : ∀ j, j < 24 → fpOK FP.Core.b64 (g j).toNat) : okA (wDb A g) := ⟨o.n1, o.n2, o.S, o.tl, o.tx, o.er, o.sv, o.fl, h⟩
theorem CI.wFl {A : Abs} {σ σ' : Dz} (c : CI A σ) (e : eqO 41 42 σ σ') {g : Nat → UInt32} (h : ∀ j, j < 24 → gz_f σ' 41 j = g j) : CI (wFl A g) σ' := by
  refine ⟨by rw [e.i (by omega)]; exact c.n, by rw [e.i (by omega)]; exact c.er, by rw [e.i (by omega)]; exact c.hs, c.S.keep fun k _ _ j => e.i (by omega) j, fun s' hs => (c.sv s' hs).keep fun k _ _ j => e.i (by omega) j, by rw [e.i (by omega)]; exact c.tl, fun i hi => by rw [e.i (by omega)]; exact c.tx i hi, h, fun j hj => by rw [e.d (by omega)]; exact c.db j hj, ?_⟩
  rw [e.i (by omega)]
  exact c.tb.imp (fun t => ⟨t.1, by rw [e.i (by omega)]; exact t.2⟩) fun t => ⟨t.1, t.2.keep fun k _ _ j => e.i (by omega) j⟩
theorem CI.wDb {A : Abs} {σ σ' : Dz} (c : CI A σ) (e : eqO 42 43 σ σ') {g : Nat → UInt64} (h : ∀ j, j < 24 → gz_d σ' 42 j = g j) : CI (wDb A g) σ' := by
  refine ⟨by rw [e.i (by omega)]; exact c.n, by rw [e.i (by omega)]; exact c.er, by rw [e.i (by omega)]; exact c.hs, c.S.keep fun k _ _ j => e.i (by omega) j, fun s' hs => (c.sv s' hs).keep fun k _ _ j => e.i (by omega) j, by rw [e.i (by omega)]; exact c.tl, fun i hi => by rw [e.i (by omega)]; exact c.tx i hi, fun j hj => by rw [e.f (by omega)]; exact c.fl j hj, h, ?_⟩
  rw [e.i (by omega)]
  exact c.tb.imp (fun t => ⟨t.1, by rw [e.i (by omega)]; exact t.2⟩) fun t => ⟨t.1, t.2.keep fun k _ _ j => e.i (by omega) j⟩
theorem MI.wFl {A : Abs} {σ σ' : Dz} (m : MI A σ) (e : eqO 50 51 σ σ') {g : Nat → UInt32} (h : ∀ j, j < 24 → gz_f σ' 50 j = g j) : MI (wFl A g) σ' := by
  refine ⟨by rw [e.i (by omega)]; exact m.n, by rw [e.i (by omega)]; exact m.er, by rw [e.i (by omega)]; exact m.hs, m.S.keep fun k _ _ j => e.i (by omega) j, fun s' hs => (m.sv s' hs).keep fun k _ _ j => e.i (by omega) j, by rw [e.i (by omega)]; exact m.tl, fun i hi => by rw [e.i (by omega)]; exact m.tx i hi, h, fun j hj => by rw [e.d (by omega)]; exact m.db j hj, ?_⟩
  rw [e.i (by omega)]
  exact m.tb.imp id fun t => ⟨t.1, t.2.keep (e.i (by omega) _) (e.i (by omega) _) (fun j => e.i (by omega) j) (fun j => e.i (by omega) j)⟩
theorem MI.wDb {A : Abs} {σ σ' : Dz} (m : MI A σ) (e : eqO 51 52 σ σ') {g : Nat → UInt64} (h : ∀ j, j < 24 → gz_d σ' 51 j = g j) : MI (wDb A g) σ' := by
  refine ⟨by rw [e.i (by omega)]; exact m.n, by rw [e.i (by omega)]; exact m.er, by rw [e.i (by omega)]; exact m.hs, m.S.keep fun k _ _ j => e.i (by omega) j, fun s' hs => (m.sv s' hs).keep fun k _ _ j => e.i (by omega) j, by rw [e.i (by omega)]; exact m.tl, fun i hi => by rw [e.i (by omega)]; exact m.tx i hi, fun j hj => by rw [e.f (by omega)]; exact m.fl j hj, h, ?_⟩
  rw [e.i (by omega)]
  exact m.tb.imp id fun t => ⟨t.1, t.2.keep (e.i (by omega) _) (e.i (by omega) _) (fun j => e.i (by omega) j) (fun j => e.i (by omega) j)⟩
/-! averageDepth -/
def smD (F : QL) (d : Nat) : Nat := fb_sm (fun q => q * cntD F q) d
theorem q_sumOfDepths {A : Abs} (o : okA A) {σ : Dz} (T : CTab A.n A.S.df A.S.ef σ) {post : Int32 → Prop} (hp : post (nI (smD (allQ A.S.df A.S.ef) (topD (allQ A.S.df A.S.ef) + 1)))) : P_X2_sumOfDepths σ post := by
  unfold P_X2_sumOfDepths
  have f := all_facts o.S o.n1 o.n2
  have ft := f.tp
  have key : ∀ k d, d + k = topD (allQ A.S.df A.S.ef) + 1 → L_X2_sumOfDepths_4 σ post (k + 1) (nI (smD (allQ A.S.df A.S.ef) d)) (nI d) := by
    intro k
    induction k with
    | zero =>
      intro d hd
      show B_X2_sumOfDepths_4 _ _ _ _ _
      unfold B_X2_sumOfDepths_4
      rw [T.ll]
      rw [show d = topD (allQ A.S.df A.S.ef) + 1 by omega]
      exact br_t (by simp (disch := omega) only [fa_lit, nI_add, pk_mul, nI_ltI, nI_leI, nI_eq] <;> omega) hp
    | succ k ih =>
      intro d hd
      show B_X2_sumOfDepths_4 _ _ _ _ _
      unfold B_X2_sumOfDepths_4
      rw [T.ll]
      refine br_f (by simp (disch := omega) only [fa_lit, nI_add, pk_mul, nI_ltI, nI_leI, nI_eq] <;> omega) (q_sizeOfLevel o T (by omega) ?_)
      rw [pk_mul, nI_add, nI_1]
      exact ih (d + 1) (by omega)
  have := key (topD (allQ A.S.df A.S.ef)) 1 (by omega)
  rw [show smD (allQ A.S.df A.S.ef) 1 = 0 by show 0 + 0 * cntD _ 0 = 0; rw [Nat.zero_mul]] at this
  exact ⟨_, this⟩
theorem av_nn (s : Int32) {v : Nat} (h0 : 0 < v) (h : v ≤ 5040) : FP.Core.val64 (FP.ddiv (FP.i2d s) (FP.i2d (nI v))) ≠ .nan := by
  refine (FP.Core.notNaN_iff _).mp (FP.Core.ddiv_out (FP.Core.i2d_fin s).notNaN (FP.Core.i2d_fin (nI v)) fun z => ?_)
  refine FP.Core.i2d_ne_zero (v := nI v) (fun e => ?_) ((FP.Core.zero_bits2 _).mp z)
  rw [show (0 : Int32) = nI 0 from rfl, nI_eq (by omega) (by decide)] at e
  omega
theorem m_average {A : Abs} (o : okA A) {σ : Dz} (T : MTab A.n A.S.df A.S.ef σ) {post : UInt64 → Dz → Prop} (hp : post (FP.ddiv (FP.i2d (nI (smD (allQ A.S.df A.S.ef) (topD (allQ A.S.df A.S.ef) + 1)))) (FP.i2d (nI (allQ A.S.df A.S.ef).length))) (sz_i σ 43 0 0)) : ∃ n, L_X10_averageDepth_8 post n σ 0 0 := by
  have f := all_facts o.S o.n1 o.n2
  have ft := f.tp
  have key : ∀ k d, d + k = topD (allQ A.S.df A.S.ef) + 1 → L_X10_averageDepth_8 post (k + 1) σ (nI (smD (allQ A.S.df A.S.ef) d)) (nI d) := by
    intro k
    induction k with
    | zero =>
      intro d hd
      show B_X10_averageDepth_8 _ _ _ _ _
      unfold B_X10_averageDepth_8
      rw [T.ll, gi_pl (by omega), T.sz]
      rw [show d = topD (allQ A.S.df A.S.ef) + 1 by omega]
      exact br_t (by simp (disch := omega) only [fa_lit, nI_add, pk_mul, nI_ltI, nI_leI, nI_eq] <;> omega) ⟨nn_D (av_nn _ f.ps f.le), hp⟩
    | succ k ih =>
      intro d hd
      show B_X10_averageDepth_8 _ _ _ _ _
      unfold B_X10_averageDepth_8
      rw [T.ll, nI_clamp (by omega), T.ct d (by omega)]
      refine br_f (by simp (disch := omega) only [fa_lit, nI_add, pk_mul, nI_ltI, nI_leI, nI_eq] <;> omega) ⟨vp_in_nI (by omega) (by omega), ?_⟩
      rw [pk_mul, nI_add, nI_1]
      exact ih (d + 1) (by omega)
  exact ⟨_, key (topD (allQ A.S.df A.S.ef) + 1) 0 (by omega)⟩
theorem cs_average {L : Nat} {xs : Nat → Int32} {rc : Dz → Int32 → Prop} {σ : Dz} {y5 : Int32} (hI : Inv σ) (hr : ∀ σ', Inv σ' → rc σ' (y5 + 4)) : B_L_law_1496 L xs rc σ y5 := by
  unfold B_L_law_1496 P_X9_averageDepth P_X10_averageDepth P_X2_size
  obtain ⟨A, o, c, m⟩ := hI
  have f := all_facts o.S o.n1 o.n2
  refine q_currentTable o c fun σ1 e1 c1 T1 => ?_
  rw [T1.sz]
  refine br_f f.nz (q_sumOfDepths o T1 ?_)
  have hn := av_nn (nI (smD (allQ A.S.df A.S.ef) (topD (allQ A.S.df A.S.ef) + 1))) f.ps f.le
  refine ⟨nn_D hn, m_tell o (m.byC (e1.mono (by omega) (by omega))) fun σ2 e2 m2 T2 => m_average o T2 ?_⟩
  refine br_t (by rw [zc_D hn hn, cv_eq]) (hr _ ⟨A, o, (c1.byM e2.eo).byM ((eo_r 43 66 _).si (by omega) (by omega) _ _), m2.thr _⟩)
/-! fillShares -/
theorem row_cases (x : Int32) : x = 0 ∨ x = 1 ∨ (¬ x = 0 ∧ ¬ x = 1 ∧ (x < nI 0 ∨ nI 1 < x)) := by
  rcases rng_cases x (lo := 0) (hi := 1) (by decide) (by decide) with ⟨a, h1, h2, h3⟩ | h
  · rcases (show a = 0 ∨ a = 1 by omega) with z | z
    · exact Or.inl (by rw [h3, z]; rfl)
    · exact Or.inr (Or.inl (by rw [h3, z]; rfl))
  · refine Or.inr (Or.inr ⟨fun z => ?_, fun z => ?_, h⟩)
    · rw [z] at h; revert h; decide
    · rw [z] at h; revert h; decide
theorem isRow_no {x : Int32} (h : x < nI 0 ∨ nI 1 < x) {post : Int32 → Prop} (hp : post 0) : P_X10_isRow x post := in_no (lo := 0) (hi := 1) h ⟨Or.inl rfl, hp⟩
theorem isRow_0 {post : Int32 → Prop} (hp : post 1) : P_X10_isRow 0 post := in_yes (a := 0) (lo := 0) (hi := 1) (by decide) (by decide) (by decide) ⟨Or.inr rfl, hp⟩
theorem isRow_1 {post : Int32 → Prop} (hp : post 1) : P_X10_isRow 1 post := in_yes (a := 1) (lo := 0) (hi := 1) (by decide) (by decide) (by decide) ⟨Or.inr rfl, hp⟩
theorem cs_fill {L : Nat} {xs : Nat → Int32} {rc : Dz → Int32 → Prop} {σ : Dz} {y5 : Int32} (g1 : vp_in (y5 + 1) L) (hI : Inv σ) (hr : ∀ σ', Inv σ' → rc σ' (y5 + 4)) : B_L_law_1661 L xs rc σ y5 := by
  unfold B_L_law_1661 P_L_fillShares P_X9_fillShares P_X10_fillShares P_X9_checkRow P_X10_fails P_X2_size
  refine ⟨g1, ?_⟩
  generalize xs (y5 + 1).toNatClampNeg = x
  obtain ⟨A, o, c, m⟩ := hI
  have f := all_facts o.S o.n1 o.n2
  rcases row_cases x with rfl | rfl | ⟨h0, h1, h⟩
  · refine br_t rfl (q_currentTable o c fun σ1 e1 c1 T1 => ?_)
    rw [T1.sz]
    refine ⟨25, q_fillF o T1 (fun σ2 e2 v2 => ⟨g1, isRow_0 (bn_f (by decide) ?_)⟩) 24 0 σ1 (by omega) (eo_r _ _ _) (fun i hi => absurd hi (Nat.not_lt_zero i))⟩
    have e3 : eqO 0 43 σ σ2 := (e1.mono (by omega) (by omega)).tr (e2.mono (by omega) (by omega))
    refine m_tell o ((m.byC e3).sl _ _) fun σ4 e4 m4 T4 => ⟨25, m_fillF o T4 (fun σ5 e5 v5 => ?_) 24 0 σ4 (by omega) (eo_r _ _ _) (fun i hi => absurd hi (Nat.not_lt_zero i))⟩
    exact both_i (o.wFl fun j _ => (shF_ok f j).2) (c1.wFl e2 v2) ((m4.wFl e5 v5).thr 0) ((e4.eo.tr (e5.mono (by omega) (by omega))).si (by omega) (by omega) _ _) (gi_same _ _ _ _) hr
  · refine br_f (by decide) (br_t rfl (q_currentTable o c fun σ1 e1 c1 T1 => ?_))
    rw [T1.sz]
    refine ⟨25, q_fillD o T1 (fun σ2 e2 v2 => ⟨g1, isRow_1 (bn_f (by decide) ?_)⟩) 24 0 σ1 (by omega) (eo_r _ _ _) (fun i hi => absurd hi (Nat.not_lt_zero i))⟩
    have e3 : eqO 0 43 σ σ2 := (e1.mono (by omega) (by omega)).tr (e2.mono (by omega) (by omega))
    refine m_tell o ((m.byC e3).sl _ _) fun σ4 e4 m4 T4 => ⟨25, m_fillD o T4 (fun σ5 e5 v5 => ?_) 24 0 σ4 (by omega) (eo_r _ _ _) (fun i hi => absurd hi (Nat.not_lt_zero i))⟩
    exact both_i (o.wDb fun j _ => (shD_ok f j).2) (c1.wDb e2 v2) ((m4.wDb e5 v5).thr 0) ((e4.eo.tr (e5.mono (by omega) (by omega))).si (by omega) (by omega) _ _) (gi_same _ _ _ _) hr
  · exact br_f h0 (br_f h1 ⟨rfl, g1, isRow_no h (bn_t rfl (bad_i o c m (by decide) hr))⟩)
/-! scale -/
theorem el_cases (x z : Int32) : (∃ i, i < 24 ∧ (x = 0 ∨ x = 1) ∧ z = nI i) ∨ ((∀ (post : Prop) (px : String → Prop), px "java/lang/IndexOutOfBoundsException" → P_X9_checkElement x z post px) ∧ ((x < nI 0 ∨ nI 1 < x) ∨ ((x = 0 ∨ x = 1) ∧ (z < nI 0 ∨ nI 23 < z)))) := by
  rcases row_cases x with h | h | ⟨h0, h1, h⟩
  · rcases rng_cases z (lo := 0) (hi := 23) (by decide) (by decide) with ⟨i, i1, i2, i3⟩ | hz
    · exact Or.inl ⟨i, by omega, Or.inl h, i3⟩
    · refine Or.inr ⟨fun post px hp => ?_, Or.inr ⟨Or.inl h, hz⟩⟩
      unfold P_X9_checkElement P_X9_checkRow
      refine br_t h ⟨fun _ => hp, fun hn => ⟨fun hl => ?_, fun _ => hp⟩⟩
      rcases hz with a | a
      · exact absurd a hn
      · rw [fa_lt] at a hl; have e1 : (24 : Int32).toInt = 24 := by decide
        have e2 : (nI 23).toInt = 23 := by decide
        omega
  · rcases rng_cases z (lo := 0) (hi := 23) (by decide) (by decide) with ⟨i, i1, i2, i3⟩ | hz
    · exact Or.inl ⟨i, by omega, Or.inr h, i3⟩
    · refine Or.inr ⟨fun post px hp => ?_, Or.inr ⟨Or.inr h, hz⟩⟩
      unfold P_X9_checkElement P_X9_checkRow
      refine br_f (by rw [h]; decide) (br_t h ⟨fun _ => hp, fun hn => ⟨fun hl => ?_, fun _ => hp⟩⟩)
      rcases hz with a | a
      · exact absurd a hn
      · rw [fa_lt] at a hl; have e1 : (24 : Int32).toInt = 24 := by decide
        have e2 : (nI 23).toInt = 23 := by decide
        omega
  · refine Or.inr ⟨fun post px hp => ?_, Or.inl h⟩
    unfold P_X9_checkElement P_X9_checkRow
    exact br_f h0 (br_f h1 hp)
theorem el_ok {x : Int32} {i : Nat} (hx : x = 0 ∨ x = 1) (hi : i < 24) {post : Prop} {px : String → Prop} (hp : post) : P_X9_checkElement x (nI i) post px := by
  unfold P_X9_checkElement P_X9_checkRow
  have g : (nI i < 0 → px "java/lang/IndexOutOfBoundsException") ∧ (¬ nI i < 0 → ((nI i < (24 : Int32) → post) ∧ (¬ nI i < (24 : Int32) → px "java/lang/IndexOutOfBoundsException"))) := br_f (qn_lt (by omega)) (br_t (by simp (disch := omega) only [fa_lit, nI_add, pk_mul, nI_ltI, nI_leI, nI_eq] <;> omega) hp)
  rcases hx with h | h
  · exact br_t h g
  · exact br_f (by rw [h]; decide) (br_t h g)
theorem upF_ok {A : Abs} (o : okA A) {i : Nat} {v : UInt32} (h : fpOK FP.Core.b32 v.toNat) : ∀ j, j < 24 → fpOK FP.Core.b32 ((fun j => if j = i then v else A.fl j) j).toNat := fun j hj => by
  show fpOK _ (if j = i then v else A.fl j).toNat
  by_cases e : j = i
  · rw [if_pos e]; exact h
  · rw [if_neg e]; exact o.fl j hj
theorem upD_ok {A : Abs} (o : okA A) {i : Nat} {v : UInt64} (h : fpOK FP.Core.b64 v.toNat) : ∀ j, j < 24 → fpOK FP.Core.b64 ((fun j => if j = i then v else A.db j) j).toNat := fun j hj => by
  show fpOK _ (if j = i then v else A.db j).toNat
  by_cases e : j = i
  · rw [if_pos e]; exact h
  · rw [if_neg e]; exact o.db j hj
theorem gF_up {σ : Dz} {k i : Nat} {v : UInt32} {g : Nat → UInt32} (h : ∀ j, j < 24 → gz_f σ k j = g j) : ∀ j, j < 24 → gz_f (sz_f σ k i v) k j = (fun j => if j = i then v else g j) j := fun j hj => by
  show _ = if j = i then v else g j
  by_cases e : j = i
  · rw [if_pos e, e, gf_same]
  · rw [if_neg e, gf_pl e]; exact h j hj
theorem gD_up {σ : Dz} {k i : Nat} {v : UInt64} {g : Nat → UInt64} (h : ∀ j, j < 24 → gz_d σ k j = g j) : ∀ j, j < 24 → gz_d (sz_d σ k i v) k j = (fun j => if j = i then v else g j) j := fun j hj => by
  show _ = if j = i then v else g j
  by_cases e : j = i
  · rw [if_pos e, e, gd_same]
  · rw [if_neg e, gd_pl e]; exact h j hj
theorem fac_cases (w : Int32) : (∀ post : Int32 → Prop, post 1 → P_X10_in w (-1000) 1000 post) ∧ ¬ w < -1000 ∧ w ≤ 1000 ∨ (∀ post : Int32 → Prop, post 0 → P_X10_in w (-1000) 1000 post) ∧ (w < -1000 ∨ ¬ w < -1000 ∧ ¬ w ≤ 1000) := by
  unfold P_X10_in
  by_cases h : w < -1000
  · exact Or.inr ⟨fun post hp => br_t h hp, Or.inl h⟩
  · by_cases h2 : w ≤ 1000
    · refine Or.inl ⟨fun post hp => br_f h (br_f (fun z => ?_) hp), h, h2⟩
      rw [fa_le] at h2; rw [fa_lt] at z; omega
    · exact Or.inr ⟨fun post hp => br_f h (br_t (fa_of_nle h2) hp), Or.inr ⟨h, h2⟩⟩
theorem cs_scale {L : Nat} {xs : Nat → Int32} {rc : Dz → Int32 → Prop} {σ : Dz} {y5 : Int32} (g1 : vp_in (y5 + 1) L) (g2 : vp_in (y5 + 2) L) (g3 : vp_in (y5 + 3) L) (hI : Inv σ) (hr : ∀ σ', Inv σ' → rc σ' (y5 + 4)) : B_L_law_1717 L xs rc σ y5 := by
  unfold B_L_law_1717 P_L_scale P_X9_scale P_X10_scale
  refine ⟨g1, g2, g3, ?_⟩
  generalize xs (y5 + 1).toNatClampNeg = x
  generalize xs (y5 + 2).toNatClampNeg = z
  generalize xs (y5 + 3).toNatClampNeg = w
  obtain ⟨A, o, c, m⟩ := hI
  rcases el_cases x z with ⟨i, hi, hx, rfl⟩ | ⟨hc, hm⟩
  · refine el_ok hx hi ?_
    have iin : ∀ post : Int32 → Prop, post 1 → P_X10_in (nI i) 0 23 post := fun post hp => in_yes (lo := 0) (hi := 23) (Nat.zero_le _) (by omega) (by decide) hp
    have irow : ∀ post : Int32 → Prop, post 1 → P_X10_isRow x post := fun post hp => by
      rcases hx with h | h
      · rw [h]; exact isRow_0 hp
      · rw [h]; exact isRow_1 hp
    rcases fac_cases w with ⟨hw, w1, w2⟩ | ⟨hw, w1⟩
    · refine br_f w1 (br_t w2 ?_)
      rcases hx with rfl | rfl
      · have hok := o.fl i hi
        have hn := mul_nnF hok w
        refine bn_t rfl (q_scaleF hi (c.fl i hi) w hn (fun hs => ⟨g1, g2, g3, irow _ (br_f (by decide) (iin _ (bn_f (by decide) (hw _ (bn_f (by decide) (bn_t rfl ?_))))))⟩) (fun hs => Or.inr (Or.inr ⟨rfl, g1, g2, g3, irow _ (br_f (by decide) (iin _ (bn_f (by decide) (hw _ (bn_f (by decide) (bn_t rfl ?_))))))⟩)))
        · have e2 : eqO 41 42 σ (sz_f σ 41 i (FP.fmul (A.fl i) (FP.i2f w))) := (eo_r _ _ _).sf (by omega) (by omega) _ _
          have m2 := (m.byC (e2.mono (by omega) (by omega))).sl 0 (FP.f2i (FP.fmul (A.fl i) (FP.i2f w))).toInt64
          refine m_scaleF hi (m2.fl i hi) w hn (fun _ => ?_) (fun z => absurd hs z)
          exact both_i (o.wFl (upF_ok o (ok_F hn hs))) (c.wFl e2 (gF_up c.fl)) ((m2.wFl ((eo_r _ _ _).sf (by omega) (by omega) _ _) (gF_up m2.fl)).thr 0) (((eo_r 43 66 _).sf (by omega) (by omega) _ _).si (by omega) (by omega) _ _) (gi_same _ _ _ _) hr
        · exact m_scaleF hi (m.fl i hi) w hn (fun z => absurd z hs) (fun _ => bad_i o c m (by decide) hr)
      · have hok := o.db i hi
        have hn := mul_nnD hok w
        refine bn_f (by decide) (q_scaleD hi (c.db i hi) w hn (fun hs => ⟨g1, g2, g3, irow _ (br_f (by decide) (iin _ (bn_f (by decide) (hw _ (bn_f (by decide) (bn_f (by decide) ?_))))))⟩) (fun hs => Or.inr (Or.inr ⟨rfl, g1, g2, g3, irow _ (br_f (by decide) (iin _ (bn_f (by decide) (hw _ (bn_f (by decide) (bn_f (by decide) ?_))))))⟩)))
        · have e2 : eqO 42 43 σ (sz_d σ 42 i (FP.dmul (A.db i) (FP.i2d w))) := (eo_r _ _ _).sd (by omega) (by omega) _ _
          have m2 := (m.byC (e2.mono (by omega) (by omega))).sl 0 (FP.d2i (FP.dmul (A.db i) (FP.i2d w))).toInt64
          refine m_scaleD hi (m2.db i hi) w hn (fun _ => ?_) (fun z => absurd hs z)
          exact both_i (o.wDb (upD_ok o (ok_D hn hs))) (c.wDb e2 (gD_up c.db)) ((m2.wDb ((eo_r _ _ _).sd (by omega) (by omega) _ _) (gD_up m2.db)).thr 0) (((eo_r 43 66 _).sd (by omega) (by omega) _ _).si (by omega) (by omega) _ _) (gi_same _ _ _ _) hr
        · exact m_scaleD hi (m.db i hi) w hn (fun z => absurd z hs) (fun _ => bad_i o c m (by decide) hr)
    · rcases w1 with w1 | ⟨w1, w2⟩
      · exact br_t w1 (Or.inr (Or.inl ⟨rfl, g1, g2, g3, irow _ (br_f (by decide) (iin _ (bn_f (by decide) (hw _ (bn_t rfl (bad_i o c m (by decide) hr))))))⟩))
      · exact br_f w1 (br_f w2 (Or.inr (Or.inl ⟨rfl, g1, g2, g3, irow _ (br_f (by decide) (iin _ (bn_f (by decide) (hw _ (bn_t rfl (bad_i o c m (by decide) hr))))))⟩)))
  · refine hc _ _ (Or.inl ⟨rfl, g1, g2, g3, ?_⟩)
    rcases hm with h | ⟨hx, hz⟩
    · exact isRow_no h (br_t rfl (bad_i o c m (by decide) hr))
    · have irow : ∀ post : Int32 → Prop, post 1 → P_X10_isRow x post := fun post hp => by
        rcases hx with h | h
        · rw [h]; exact isRow_0 hp
        · rw [h]; exact isRow_1 hp
      exact irow _ (br_f (by decide) (in_no (lo := 0) (hi := 23) hz (bn_t rfl (bad_i o c m (by decide) hr))))
end QRowCases
