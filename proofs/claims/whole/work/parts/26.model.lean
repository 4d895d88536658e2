/-! the model's words -/
section QModel
/-- only cell 59 and the fields 22, 23 of cell 43 may change -/
def eqC (σ σ' : Dz) : Prop := (∀ k, k ≠ 59 → k ≠ 43 → ∀ j, gz_i σ' k j = gz_i σ k j ∧ gz_f σ' k j = gz_f σ k j ∧ gz_d σ' k j = gz_d σ k j ∧ gz_l σ' k j = gz_l σ k j) ∧ ∀ j, (j ≠ 22 ∧ j ≠ 23) → gz_i σ' 43 j = gz_i σ 43 j
theorem ec_r (σ : Dz) : eqC σ σ := ⟨fun _ _ _ _ => ⟨rfl, rfl, rfl, rfl⟩, fun _ _ => rfl⟩
theorem eqC.i {σ σ' : Dz} (h : eqC σ σ') {k : Nat} (hk : k ≠ 59 ∧ k ≠ 43) (j : Nat) : gz_i σ' k j = gz_i σ k j := (h.1 k hk.1 hk.2 j).1
theorem eqC.m {σ σ' : Dz} (h : eqC σ σ') {j : Nat} (hj : j ≠ 22 ∧ j ≠ 23) : gz_i σ' 43 j = gz_i σ 43 j := h.2 j hj
theorem eqC.tr {σ σ' σ'' : Dz} (h : eqC σ σ') (h2 : eqC σ' σ'') : eqC σ σ'' := ⟨fun k hk h3 j => ⟨(h2.1 k hk h3 j).1.trans (h.1 k hk h3 j).1, (h2.1 k hk h3 j).2.1.trans (h.1 k hk h3 j).2.1, (h2.1 k hk h3 j).2.2.1.trans (h.1 k hk h3 j).2.2.1, (h2.1 k hk h3 j).2.2.2.trans (h.1 k hk h3 j).2.2.2⟩, fun j hj => (h2.m hj).trans (h.m hj)⟩
theorem eqC.s59 {σ σ' : Dz} (h : eqC σ σ') (j : Nat) (v : Int32) : eqC σ (sz_i σ' 59 j v) :=
  h.tr ⟨fun k' hk h3 j' => ⟨gi_cell (by omega), rfl, rfl, rfl⟩, fun j' h4 => gi_cell (by omega)⟩
theorem eqC.s43 {σ σ' : Dz} (h : eqC σ σ') {j : Nat} (hj : j = 22 ∨ j = 23) (v : Int32) : eqC σ (sz_i σ' 43 j v) :=
  h.tr ⟨fun k' hk h3 j' => ⟨gi_cell (by omega), rfl, rfl, rfl⟩, fun j' h4 => gi_pl (by omega)⟩
theorem eqC.s {σ σ' : Dz} (h : eqC σ σ') : eqS 59 60 σ σ' := ⟨fun k hk h3 j => h.1 k (by omega) h3 j, fun j hj => h.2 j (by omega)⟩
def isMd (l : Nat) (d : Nat → Nat) (f : Bool) (σ : Dz) : Prop := gz_i σ 43 22 = nI l ∧ l ≤ 200 ∧ (∀ i, i < l → gz_i σ 59 i = nI (d i)) ∧ gz_i σ 43 23 = if f then 1 else 0
theorem isMd.cong {l l' : Nat} {d d' : Nat → Nat} {f f' : Bool} {σ : Dz} (h : isMd l d f σ) (hl : l = l') (e : ∀ i, i < l → d i = d' i) (hf : f = f') : isMd l' d' f' σ := by
  subst hl; subst hf
  exact ⟨h.1, h.2.1, fun i hi => by rw [h.2.2.1 i hi, e i hi], h.2.2.2⟩
theorem m_comes {l : Nat} {d : Nat → Nat} {f : Bool} {σ : Dz} (h : isMd l d f σ) (v : Nat) {post : Dz → Prop} (hp : ∀ σ', eqC σ σ' → isMd (min 200 (l + 1)) (catD d l (fun _ => v)) (f || decide (200 < l + 1)) σ' → post σ') : P_X10_comes σ (nI v) post := by
  unfold P_X10_comes
  have h3 := h.2.1
  rw [h.1]
  by_cases hl : l = 200
  · subst hl
    refine bn_t rfl (hp _ ((ec_r σ).s43 (Or.inr rfl) _) ⟨?_, by omega, fun i hi => ?_, ?_⟩)
    · rw [gi_pl (by omega), h.1]; rfl
    · rw [gi_cell (by omega), h.2.2.1 i (by omega), catD_0 _ _ _ (by omega)]
    · rw [gi_same]; cases f <;> rfl
  · refine bn_f (by simp (disch := omega) only [fa_lit, nI_add, pk_mul, nI_ltI, nI_leI, nI_eq]; omega) ⟨vp_in_nI (by omega) (by omega), ?_⟩
    rw [nI_clamp (by omega), gi_cell (by omega), h.1, nI_1]
    refine hp _ (((ec_r σ).s59 _ _).s43 (Or.inl rfl) _) ⟨?_, by omega, fun i hi => ?_, ?_⟩
    · rw [gi_same, Nat.min_eq_right (by omega)]
    · rw [gi_cell (by omega)]
      by_cases hi2 : i < l
      · rw [gi_pl (by omega), h.2.2.1 i hi2, catD_0 _ _ _ hi2]
      · have : i = l := by omega
        subst this
        rw [gi_same, catD_1 _ _ _ (Nat.le_refl _)]
    · rw [gi_pl (by omega), gi_cell (by omega), h.2.2.2]
      have : decide (200 < l + 1) = false := decide_eq_false (by omega)
      rw [this, Bool.or_false]
theorem md_step {l i : Nat} {d g : Nat → Nat} {f : Bool} {v : Nat} {σ : Dz} (h : isMd (min 200 (min 200 (l + i) + 1)) (catD (catD d l g) (min 200 (l + i)) (fun _ => v)) ((f || decide (200 < l + i)) || decide (200 < min 200 (l + i) + 1)) σ) (hl : l ≤ 200) (hv : v = g i) : isMd (min 200 (l + (i + 1))) (catD d l g) (f || decide (200 < l + (i + 1))) σ := by
  refine h.cong (by omega) (fun j hj => ?_) ?_
  · by_cases hj2 : j < min 200 (l + i)
    · rw [catD_0 _ _ _ hj2]
    · rw [catD_1 _ _ _ (by omega), catD_1 _ _ _ (by omega), hv]
      congr 1; omega
  · rw [Bool.or_assoc]
    congr 1
    by_cases h5 : 200 < l + i
    · rw [decide_eq_true h5, decide_eq_true (show 200 < l + (i + 1) by omega), Bool.true_or]
    · rw [decide_eq_false h5, Bool.false_or]
      exact decide_eq_decide.mpr (by omega)
theorem md_start {l : Nat} {d g : Nat → Nat} {f : Bool} {σ : Dz} (h : isMd l d f σ) : isMd (min 200 (l + 0)) (catD d l g) (f || decide (200 < l + 0)) σ := by
  have := h.2.1
  refine h.cong (by omega) (fun i hi => (catD_0 _ _ _ hi).symm) ?_
  rw [decide_eq_false (by omega), Bool.or_false]
/-- the letters of a slot, forwards (b = 0) or back -/
theorem m_comesWord {s l l1 : Nat} {d d1 : Nat → Nat} {f : Bool} {σ : Dz} (h : isMd l d f σ) (hs : s < 4) (hl1 : l1 ≤ 200) (h1 : gz_i σ 47 s = nI l1) (h2 : ∀ i, i < l1 → gz_i σ 48 (200 * s + i) = nI (d1 i)) (b : Bool) {post : Dz → Prop}
    (hp : ∀ σ', eqC σ σ' → isMd (min 200 (l + l1)) (catD d l (if b then fun i => d1 (l1 - 1 - i) ^^^ 1 else d1)) (f || decide (200 < l + l1)) σ' → post σ') : P_X10_comesWord σ (nI s) (if b then 1 else 0) post := by
  unfold P_X10_comesWord
  have h4 := h.2.1
  refine ⟨vp_in_nI hs (by omega), ?_⟩
  rw [nI_clamp (by omega), h1]
  have key : ∀ k i σ', i + k = l1 → eqC σ σ' → isMd (min 200 (l + i)) (catD d l (if b then fun i => d1 (l1 - 1 - i) ^^^ 1 else d1)) (f || decide (200 < l + i)) σ' → L_X10_comesWord_10 post (k + 1) σ' (nI s) (if b then 1 else 0) (nI l1) (nI i) := by
    intro k
    induction k with
    | zero =>
      intro i σ' hi he hw
      show B_X10_comesWord_10 _ _ _ _ _ _ _
      unfold B_X10_comesWord_10
      have : i = l1 := by omega
      subst this
      exact br_t (by simp (disch := omega) only [fa_lit, nI_add, pk_mul, nI_ltI, nI_leI, nI_eq] <;> omega) (hp σ' he hw)
    | succ k ih =>
      intro i σ' hi he hw
      show B_X10_comesWord_10 _ _ _ _ _ _ _
      unfold B_X10_comesWord_10
      refine br_f (by simp (disch := omega) only [fa_lit, nI_add, pk_mul, nI_ltI, nI_leI, nI_eq] <;> omega) ?_
      cases b with
      | false =>
        refine br_t rfl ?_
        rw [show (200 : Int32) * nI s + nI i = nI (200 * s + i) by rw [fa_lit, pk_mul, nI_add], nI_clamp (by omega)]
        refine ⟨vp_in_nI (by omega) (by omega), ?_⟩
        unfold B_X10_comesWord_56
        rw [he.i (by omega), h2 i (by omega)]
        refine m_comes hw _ (fun σ2 he2 hw2 => ?_)
        rw [nI_1]
        exact ih (i + 1) σ2 (by omega) (he.tr he2) (md_step hw2 h4 rfl)
      | true =>
        refine br_f (by decide) ?_
        rw [show (200 : Int32) * nI s + nI l1 - 1 - nI i = nI (200 * s + (l1 - 1 - i)) by
          rw [show (200 : Int32) = nI 200 from rfl, show (1 : Int32) = nI 1 from rfl, pk_mul, nI_add, pk_sub (by omega), pk_sub (by omega)]; congr 1; omega, nI_clamp (by omega)]
        refine ⟨vp_in_nI (by omega) (by omega), ?_⟩
        unfold B_X10_comesWord_56
        rw [he.i (by omega), h2 (l1 - 1 - i) (by omega), q_xor1]
        refine m_comes hw _ (fun σ2 he2 hw2 => ?_)
        rw [nI_1]
        exact ih (i + 1) σ2 (by omega) (he.tr he2) (md_step hw2 h4 rfl)
  exact ⟨l1 + 1, key l1 0 σ (by omega) (ec_r _) (md_start h)⟩
theorem MSit.setW {t n : Nat} {S : Sit} {σ σ' : Dz} (h : MSit t n S σ) {s l : Nat} {d : Nat → Nat} (hs : s < 4) (hl : l ≤ 200) (e1 : ∀ c, t ≤ c → c < t + 3 → ∀ j, gz_i σ' c j = gz_i σ c j) (e2 : ∀ r, r < 4 → r ≠ s → gz_i σ' (t + 3) r = gz_i σ (t + 3) r) (e3 : ∀ r, r < 4 → r ≠ s → ∀ i, i < 200 → gz_i σ' (t + 4) (200 * r + i) = gz_i σ (t + 4) (200 * r + i)) (w1 : gz_i σ' (t + 3) s = nI l) (w2 : ∀ i, i < l → gz_i σ' (t + 4) (200 * s + i) = nI (d i)) (ho : okSit n S) : MSit t n (setW S s l d) σ' := by
  refine ⟨fun p hp => ?_, fun m hm => ?_, fun l hl hd p hp => ?_, fun r hr => ?_, fun r hr i hi => ?_⟩
  · rw [e1 _ (by omega) (by omega)]; exact h.to p hp
  · rw [e1 _ (by omega) (by omega)]; exact h.df m hm
  · rw [e1 _ (by omega) (by omega)]; exact h.ef l hl hd p hp
  · show _ = nI (if r = s then l else S.wl r)
    by_cases e : r = s
    · rw [if_pos e, e]; exact w1
    · rw [if_neg e, e2 r hr e]; exact h.wl r hr
  · have hi' : i < (if r = s then l else S.wl r) := hi
    show _ = nI ((if r = s then d else S.wd r) i)
    by_cases e : r = s
    · rw [if_pos e] at hi' ⊢; rw [e]; exact w2 i hi'
    · rw [if_neg e] at hi' ⊢
      have := ho.le r hr
      rw [e3 r hr e i (by omega)]; exact h.wd r hr i hi'
theorem m_keeps {n s l : Nat} {d : Nat → Nat} {f : Bool} {S : Sit} {σ : Dz} (h : isMd l d f σ) (hs : s < 4) (hM : MSit 44 n S σ) (ho : okSit n S) {post : Int32 → Dz → Prop} (hp : ∀ σ', eqS 47 49 σ σ' → MSit 44 n (setW S s l d) σ' → gz_i σ' 43 0 = 0 → post (nI l) σ') : P_X10_keeps σ (nI s) post := by
  unfold P_X10_keeps
  have h4 := h.2.1
  refine ⟨vp_in_nI hs (by omega), ?_⟩
  rw [nI_clamp (by omega), h.1]
  have key : ∀ k i σ', i + k = l → eqS 47 49 σ σ' → gz_i σ' 43 22 = nI l → (∀ r, gz_i σ' 47 r = if r = s then nI l else gz_i σ 47 r) → (∀ j, gz_i σ' 48 j = if 200 * s ≤ j ∧ j < 200 * s + i then nI (d (j - 200 * s)) else gz_i σ 48 j) → L_X10_keeps_12 post (k + 1) σ' (nI s) (nI i) := by
    intro k
    induction k with
    | zero =>
      intro i σ' hi he h1 h2 h3
      show B_X10_keeps_12 _ _ _ _ _
      unfold B_X10_keeps_12
      have : i = l := by omega
      subst this
      rw [h1]
      refine br_t (by simp (disch := omega) only [fa_lit, nI_add, pk_mul, nI_ltI, nI_leI, nI_eq] <;> omega) ?_
      show post _ _
      refine hp _ (he.s43 (Or.inl rfl) _) (MSit.keep (σ := σ') (hM.setW hs h4 (fun c h5 h6 j => he.i (by omega) j) (fun r _ hr => ?_) (fun r _ hr i hi => ?_) ?_ (fun i hi => ?_) ho) (fun c h5 h6 j => gi_cell (by omega))) (gi_same _ _ _ _)
      · rw [h2, if_neg hr]
      · rw [h3, if_neg (by omega)]
      · rw [h2, if_pos rfl]
      · rw [h3, if_pos (by omega)]; congr 2; omega
    | succ k ih =>
      intro i σ' hi he h1 h2 h3
      show B_X10_keeps_12 _ _ _ _ _
      unfold B_X10_keeps_12
      rw [h1]
      refine br_f (by simp (disch := omega) only [fa_lit, nI_add, pk_mul, nI_ltI, nI_leI, nI_eq] <;> omega) ⟨vp_in_nI (by omega) (by omega), ?_⟩
      rw [show (200 : Int32) * nI s + nI i = nI (200 * s + i) by rw [fa_lit, pk_mul, nI_add], nI_clamp (by omega), nI_clamp (by omega), he.i (by omega), h.2.2.1 i (by omega), nI_1]
      refine ⟨vp_in_nI (by omega) (by omega), ih (i + 1) _ (by omega) (he.si (by omega) (by omega) (by omega) _ _) (by rw [gi_cell (by omega)]; exact h1) (fun r => by rw [gi_cell (by omega)]; exact h2 r) (fun j => ?_)⟩
      by_cases hj : j = 200 * s + i
      · subst hj; rw [gi_same, if_pos (by omega)]; congr 2; omega
      · rw [gi_pl hj, h3]
        by_cases hc : 200 * s ≤ j ∧ j < 200 * s + i
        · rw [if_pos hc, if_pos (by omega)]
        · rw [if_neg hc, if_neg (by omega)]
  refine ⟨l + 1, key l 0 _ (by omega) ((es_r 47 49 σ).si (by omega) (by omega) (by omega) _ _) (by rw [gi_cell (by omega)]; exact h.1) (fun r => ?_) (fun j => by rw [gi_cell (by omega), if_neg (by omega)])⟩
  by_cases hr : r = s
  · rw [if_pos hr, hr, gi_same]
  · rw [if_neg hr, gi_pl hr]
theorem m_clears {σ : Dz} {post : Dz → Prop} (hp : ∀ σ', eqS 43 43 σ σ' → (∀ d, isMd 0 d false σ') → gz_i σ' 43 24 = 0 → gz_i σ' 43 25 = 0 → post σ') : P_X10_clears σ post := by
  unfold P_X10_clears
  refine hp _ (((((es_r 43 43 σ).s43 (by unfold scr; omega) _).s43 (by unfold scr; omega) _).s43 (by unfold scr; omega) _).s43 (by unfold scr; omega) _) (fun d => ⟨?_, by omega, fun i hi => absurd hi (by omega), ?_⟩) ?_ ?_
  · simp (disch := omega) only [gi_same, gi_pl]; rfl
  · simp (disch := omega) only [gi_same, gi_pl]; rfl
  · simp (disch := omega) only [gi_same, gi_pl]
  · simp (disch := omega) only [gi_same, gi_pl]
end QModel
