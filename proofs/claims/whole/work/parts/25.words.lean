/-! words: adding letters, on both sides -/
section QWords
theorem pm_lt {j a : Nat} (hj : j < 2 ^ 31) (ha : a < 2 ^ 31) : nI j - 1 < nI a ↔ j ≤ a := by
  rcases Nat.eq_zero_or_pos j with h | h
  · subst h
    have e : nI 0 - 1 = (-1 : Int32) := by decide
    rw [e]
    refine ⟨fun _ => Nat.zero_le _, fun _ => ?_⟩
    rw [fa_lt, nI_toInt ha]
    have : (-1 : Int32).toInt = -1 := by decide
    rw [this]; omega
  · rw [show (1 : Int32) = nI 1 from rfl, pk_sub h, nI_ltI (by omega) ha]; omega
theorem pm_s (j : Nat) : nI (j + 1) - 1 = nI j := by rw [show (1 : Int32) = nI 1 from rfl, pk_sub (by omega)]; rfl
theorem pm_m (x : Int32) : x + (-1) = x - 1 := by
  apply Int32.toBitVec_inj.mp
  simp [Int32.toBitVec_add, Int32.toBitVec_sub, BitVec.sub_eq_add_neg]
theorem q_xor1 {a : Nat} : nI a ^^^ 1 = nI (a ^^^ 1) := fb_xorI a 1
def isWd (w l : Nat) (d : Nat → Nat) (σ : Dz) : Prop := gz_i σ w 1 = nI l ∧ l ≤ 200 ∧ ∀ i, i < l → gz_i σ (w + 1) i = nI (d i)
def catD (d : Nat → Nat) (l : Nat) (g : Nat → Nat) : Nat → Nat := fun i => if i < l then d i else g (i - l)
theorem catD_0 (d : Nat → Nat) (l : Nat) (g : Nat → Nat) {i : Nat} (h : i < l) : catD d l g i = d i := if_pos h
theorem catD_1 (d : Nat → Nat) (l : Nat) (g : Nat → Nat) {i : Nat} (h : l ≤ i) : catD d l g i = g (i - l) := if_neg (by omega)
theorem isWd.cong {w l : Nat} {d d' : Nat → Nat} {σ : Dz} (h : isWd w l d σ) (e : ∀ i, i < l → d i = d' i) : isWd w l d' σ := ⟨h.1, h.2.1, fun i hi => by rw [h.2.2 i hi, e i hi]⟩
theorem isWd.keep {w l : Nat} {d : Nat → Nat} {σ σ' : Dz} (h : isWd w l d σ) (e : ∀ c, w ≤ c → c < w + 2 → ∀ j, gz_i σ' c j = gz_i σ c j) : isWd w l d σ' :=
  ⟨by rw [e w (by omega) (by omega), h.1], h.2.1, fun i hi => by rw [e _ (by omega) (by omega), h.2.2 i hi]⟩
theorem q_at {w l : Nat} {d : Nat → Nat} {σ : Dz} (h : isWd w l d σ) {j : Nat} (hj : j < l) {post : Int32 → Prop} (hp : post (nI (d j))) : P_X6_at σ w (nI j) post := by
  unfold P_X6_at
  have h2 := h.2.1
  refine br_f (qn_lt (by omega)) (br_f (by rw [h.1]; simp (disch := omega) only [fa_lit, nI_add, pk_mul, nI_ltI, nI_leI, nI_eq]; omega) ⟨vp_in_nI (by omega) (by omega), ?_⟩)
  rw [nI_clamp (by omega), h.2.2 j hj]; exact hp
theorem q_add {w l : Nat} {d : Nat → Nat} {σ : Dz} (h : isWd w l d σ) (v : Nat) {post : Int32 → Dz → Prop} (h1 : l < 200 → ∀ σ', eqO w (w + 2) σ σ' → isWd w (l + 1) (catD d l (fun _ => v)) σ' → post 1 σ') (h2 : l = 200 → post 0 σ) : P_X6_add σ w (nI v) post := by
  unfold P_X6_add
  have h3 := h.2.1
  rw [h.1]
  by_cases hl : l < 200
  · refine br_t (by simp (disch := omega) only [fa_lit, nI_add, pk_mul, nI_ltI, nI_leI, nI_eq]; omega) ⟨vp_in_nI hl (by omega), ?_⟩
    rw [nI_clamp (by omega), gi_cell (by omega), h.1, nI_1]
    refine h1 hl _ (((eo_r w (w + 2) σ).si (by omega) (by omega) _ _).si (by omega) (by omega) _ _) ⟨gi_same _ _ _ _, by omega, fun i hi => ?_⟩
    rw [gi_cell (by omega)]
    by_cases hi2 : i < l
    · rw [gi_pl (by omega), h.2.2 i hi2, catD_0 _ _ _ hi2]
    · have : i = l := by omega
      subst this
      rw [gi_same, catD_1 _ _ _ (Nat.le_refl _)]
  · exact br_f (by simp (disch := omega) only [fa_lit, nI_add, pk_mul, nI_ltI, nI_leI, nI_eq]; omega) (h2 (by omega))
/-- the loop of addPart; R says what is read -/
theorem q_addPart {w w1 l a m : Nat} {d g : Nat → Nat} {σ : Dz} (h : isWd w l d σ) (hm : a + m < 2 ^ 31)
    (R : ∀ σ' l' d', eqO w (w + 2) σ σ' → isWd w l' d' σ' → l ≤ l' → (∀ i, i < l → d' i = d i) → ∀ j, j < m → ∀ post : Int32 → Prop, post (nI (g j)) → P_X6_at σ' w1 (nI (a + j)) post)
    {post : Int32 → Dz → Prop} (h1 : l + m ≤ 200 → ∀ σ', eqO w (w + 2) σ σ' → isWd w (l + m) (catD d l g) σ' → post 1 σ') (h2 : 200 < l + m → ∀ σ', eqO w (w + 2) σ σ' → post 0 σ') :
    P_X6_addPart σ w w1 (nI a) (nI (a + m)) post := by
  unfold P_X6_addPart
  have key : ∀ k i σ', i + k = m → eqO w (w + 2) σ σ' → isWd w (l + i) (catD d l g) σ' → L_X6_addPart_6 w w1 post (k + 2) σ' (nI (a + m)) 1 (nI (a + i)) := by
    intro k
    induction k with
    | zero =>
      intro i σ' hi he hw
      show B_X6_addPart_6 _ _ _ _ _ _ _ _
      unfold B_X6_addPart_6
      have : i = m := by omega
      subst this
      exact br_f (by decide) (br_t (by simp (disch := omega) only [fa_lit, nI_add, pk_mul, nI_ltI, nI_leI, nI_eq] <;> omega) ⟨Or.inr rfl, h1 hw.2.1 σ' he hw⟩)
    | succ k ih =>
      intro i σ' hi he hw
      show B_X6_addPart_6 _ _ _ _ _ _ _ _
      unfold B_X6_addPart_6
      refine br_f (by decide) (br_f (by simp (disch := omega) only [fa_lit, nI_add, pk_mul, nI_ltI, nI_leI, nI_eq] <;> omega) ?_)
      refine R σ' _ _ he hw (by omega) (fun i hi => catD_0 _ _ _ hi) i (by omega) _ ?_
      refine q_add hw _ (fun hl σ2 he2 hw2 => ?_) (fun hl => ?_)
      · rw [nI_1]
        refine ih (i + 1) σ2 (by omega) (he.tr he2) (hw2.cong ?_)
        intro j hj
        by_cases hj2 : j < l + i
        · rw [catD_0 _ _ _ hj2]
        · rw [catD_1 _ _ _ (by omega), catD_1 _ _ _ (by omega)]
          congr 1; omega
      · show B_X6_addPart_6 _ _ _ _ _ _ _ _
        unfold B_X6_addPart_6
        exact br_t rfl ⟨Or.inl rfl, h2 (by omega) σ' he⟩
  exact ⟨m + 2, key m 0 σ (by omega) (eo_r _ _ _) (h.cong fun i hi => (catD_0 _ _ _ hi).symm)⟩
/-- the loop of addInverseOfPart -/
theorem q_addInv {w w1 l a m : Nat} {d g : Nat → Nat} {σ : Dz} (h : isWd w l d σ) (hm : a + m < 2 ^ 31)
    (R : ∀ σ' l' d', eqO w (w + 2) σ σ' → isWd w l' d' σ' → l ≤ l' → (∀ i, i < l → d' i = d i) → ∀ j, j < m → ∀ post : Int32 → Prop, post (nI (g j)) → P_X6_at σ' w1 (nI (a + j)) post)
    {post : Int32 → Dz → Prop} (h1 : l + m ≤ 200 → ∀ σ', eqO w (w + 2) σ σ' → isWd w (l + m) (catD d l (fun i => g (m - 1 - i) ^^^ 1)) σ' → post 1 σ') (h2 : 200 < l + m → ∀ σ', eqO w (w + 2) σ σ' → post 0 σ') :
    P_X6_addInverseOfPart σ w w1 (nI a) (nI (a + m)) post := by
  unfold P_X6_addInverseOfPart
  have key : ∀ k i σ', i + k = m → eqO w (w + 2) σ σ' → isWd w (l + i) (catD d l (fun i => g (m - 1 - i) ^^^ 1)) σ' → L_X6_addInverseOfPart_8 w w1 post (k + 2) σ' (nI a) 1 (nI (a + k) - 1) := by
    intro k
    induction k with
    | zero =>
      intro i σ' hi he hw
      show B_X6_addInverseOfPart_8 _ _ _ _ _ _ _ _
      unfold B_X6_addInverseOfPart_8
      have : i = m := by omega
      subst this
      exact br_f (by decide) (br_t ((pm_lt (by omega) (by omega)).mpr (by omega)) ⟨Or.inr rfl, h1 hw.2.1 σ' he hw⟩)
    | succ k ih =>
      intro i σ' hi he hw
      show B_X6_addInverseOfPart_8 _ _ _ _ _ _ _ _
      unfold B_X6_addInverseOfPart_8
      refine br_f (by decide) (br_f (by rw [pm_lt (by omega) (by omega)]; omega) ?_)
      rw [show nI (a + (k + 1)) - 1 = nI (a + k) from pm_s (a + k)]
      refine R σ' _ _ he hw (by omega) (fun i hi => catD_0 _ _ _ hi) k (by omega) _ ?_
      rw [q_xor1]
      refine q_add hw _ (fun hl σ2 he2 hw2 => ?_) (fun hl => ?_)
      · rw [pm_m]
        refine ih (i + 1) σ2 (by omega) (he.tr he2) (hw2.cong ?_)
        intro j hj
        by_cases hj2 : j < l + i
        · rw [catD_0 _ _ _ hj2]
        · rw [catD_1 _ _ _ (by omega), catD_1 _ _ _ (by omega)]
          congr 2; omega
      · show B_X6_addInverseOfPart_8 _ _ _ _ _ _ _ _
        unfold B_X6_addInverseOfPart_8
        exact br_t rfl ⟨Or.inl rfl, h2 (by omega) σ' he⟩
  exact ⟨m + 2, by
    have := key m 0 σ (by omega) (eo_r _ _ _) (h.cong fun i hi => (catD_0 _ _ _ hi).symm)
    exact this⟩
theorem q_readO {w w1 l1 : Nat} {d1 : Nat → Nat} {σ : Dz} (h1 : isWd w1 l1 d1 σ) (hne : w1 + 2 ≤ w ∨ w + 2 ≤ w1) {σ' : Dz} (he : eqO w (w + 2) σ σ') {j : Nat} (hj : j < l1) {post : Int32 → Prop} (hp : post (nI (d1 j))) : P_X6_at σ' w1 (nI (0 + j)) post := by
  rw [Nat.zero_add]
  exact q_at (h1.keep fun c hc1 hc2 j => he.i (by omega) j) hj hp
theorem q_addAll {w w1 l l1 : Nat} {d d1 : Nat → Nat} {σ : Dz} (h : isWd w l d σ) (h1 : isWd w1 l1 d1 σ) (hne : w1 + 2 ≤ w ∨ w + 2 ≤ w1) {post : Int32 → Dz → Prop} (hp : l + l1 ≤ 200 → ∀ σ', eqO w (w + 2) σ σ' → isWd w (l + l1) (catD d l d1) σ' → post 1 σ') (hq : 200 < l + l1 → ∀ σ', eqO w (w + 2) σ σ' → post 0 σ') : P_X6_addAll σ w w1 post := by
  unfold P_X6_addAll P_X6_length
  rw [h1.1]
  have hl := h1.2.1
  have := q_addPart (a := 0) (m := l1) (g := d1) h (by omega) (fun σ' _ _ he _ _ _ j hj post hp => q_readO h1 hne he hj hp) (post := fun r7 τ7 => (r7 = 0 ∨ r7 = 1) ∧ post r7 τ7) (fun hl σ' he hw => ⟨Or.inr rfl, hp hl σ' he hw⟩) (fun hl σ' he => ⟨Or.inl rfl, hq hl σ' he⟩)
  rw [Nat.zero_add] at this
  exact this
theorem q_addInverseOf {w w1 l l1 : Nat} {d d1 : Nat → Nat} {σ : Dz} (h : isWd w l d σ) (h1 : isWd w1 l1 d1 σ) (hne : w1 + 2 ≤ w ∨ w + 2 ≤ w1) {post : Int32 → Dz → Prop} (hp : l + l1 ≤ 200 → ∀ σ', eqO w (w + 2) σ σ' → isWd w (l + l1) (catD d l (fun i => d1 (l1 - 1 - i) ^^^ 1)) σ' → post 1 σ') (hq : 200 < l + l1 → ∀ σ', eqO w (w + 2) σ σ' → post 0 σ') : P_X6_addInverseOf σ w w1 post := by
  unfold P_X6_addInverseOf P_X6_length
  rw [h1.1]
  have hl := h1.2.1
  have := q_addInv (a := 0) (m := l1) (g := d1) h (by omega) (fun σ' _ _ he _ _ _ j hj post hp => q_readO h1 hne he hj hp) (post := fun r7 τ7 => (r7 = 0 ∨ r7 = 1) ∧ post r7 τ7) (fun hl σ' he hw => ⟨Or.inr rfl, hp hl σ' he hw⟩) (fun hl σ' he => ⟨Or.inl rfl, hq hl σ' he⟩)
  rw [Nat.zero_add] at this
  exact this
theorem q_copyW {w w1 l1 : Nat} {d1 : Nat → Nat} {σ : Dz} (h1 : isWd w1 l1 d1 σ) (hne : w1 + 2 ≤ w ∨ w + 2 ≤ w1) {post : Dz → Prop} (hp : ∀ σ', eqO w (w + 2) σ σ' → isWd w l1 d1 σ' → post σ') : P_X6_copyFrom σ w w1 post := by
  unfold P_X6_copyFrom
  have hl := h1.2.1
  have e0 : eqO w (w + 2) σ (sz_i σ w 1 0) := (eo_r _ _ _).si (by omega) (by omega) _ _
  refine q_addAll (l := 0) (d := d1) ⟨gi_same _ _ _ _, by omega, fun i hi => absurd hi (by omega)⟩ (h1.keep fun c hc1 hc2 j => e0.i (by omega) j) hne (fun _ σ' he hw => hp σ' (e0.tr he) ?_) (fun hq => absurd hq (by omega))
  rw [Nat.zero_add] at hw
  exact hw.cong fun i hi => by rw [catD_1 _ _ _ (by omega)]; rfl
def setW (S : Sit) (s l : Nat) (d : Nat → Nat) : Sit := (S.df, S.ef, fun t => if t = s then l else S.wl t, fun t => if t = s then d else S.wd t, S.pl)
theorem CSit.word {S : Sit} {σ : Dz} {n k : Nat} (o : okSit n S) (h : CSit k S σ) {s : Nat} (hs : s < 4) : isWd (k + 3 + 2 * s) (S.wl s) (S.wd s) σ := ⟨h.wl s hs, o.le s hs, h.wd s hs⟩
theorem CSit.setW {S : Sit} {σ σ' : Dz} {k : Nat} (h : CSit k S σ) {s l : Nat} {d : Nat → Nat} (hs : s < 4) (he : eqO (k + 3 + 2 * s) (k + 3 + 2 * s + 2) σ σ') (hw : isWd (k + 3 + 2 * s) l d σ') : CSit k (setW S s l d) σ' := by
  refine ⟨?_, ?_, fun l hl => ?_, fun t ht => ?_, fun t ht i hi => ?_⟩
  · obtain ⟨M, h1, h2, h3⟩ := h.df
    exact ⟨M, h1, by rw [he.i (by omega), h2], h3⟩
  · rw [he.i (by omega), h.pl]; rfl
  · rw [he.i (by omega), h.ef l hl]; rfl
  · by_cases e : t = s
    · subst e
      show _ = nI (if t = t then l else _)
      rw [if_pos rfl]; exact hw.1
    · show _ = nI (if t = s then l else _)
      rw [if_neg e, he.i (by omega)]; exact h.wl t ht
  · by_cases e : t = s
    · subst e
      show _ = nI ((if t = t then d else _) i)
      rw [if_pos rfl]
      exact hw.2.2 i (by have : (if t = t then l else S.wl t) = l := if_pos rfl; exact this ▸ hi)
    · show _ = nI ((if t = s then d else _) i)
      rw [if_neg e, he.i (by omega)]
      exact h.wd t ht i (by have : (if t = s then l else S.wl t) = S.wl t := if_neg e; exact this ▸ hi)
theorem okSit.setW {n : Nat} {S : Sit} (h : okSit n S) {s l : Nat} {d : Nat → Nat} (hl : l ≤ 200) (hd : ∀ i, i < l → d i < 10 ∧ S.df (d i / 2) = true) : okSit n (setW S s l d) := by
  refine ⟨h.pk, h.un, h.iv, fun t ht => ?_, fun t ht i hi => ?_, h.at_⟩
  · show (if t = s then l else S.wl t) ≤ 200
    split
    · exact hl
    · exact h.le t ht
  · have hi' : i < (if t = s then l else S.wl t) := hi
    show ((if t = s then d else S.wd t) i) < 10 ∧ S.df (((if t = s then d else S.wd t) i) / 2) = true
    by_cases e : t = s
    · rw [if_pos e] at hi' ⊢; exact hd i hi'
    · rw [if_neg e] at hi' ⊢; exact h.ok t ht i hi'
theorem q_word {k s : Nat} {σ : Dz} (hs : s < 4) {post : Nat → Prop} (hp : post (k + 3 + 2 * s)) : P_X4_word σ k (nI s) post := by
  unfold P_X4_word
  refine br_f (qn_lt (by omega)) (br_f (by simp (disch := omega) only [fa_lit, nI_add, pk_mul, nI_ltI, nI_leI, nI_eq] <;> omega) ⟨vp_in_nI hs (by omega), ?_⟩)
  rw [nI_clamp (by omega)]; exact hp
theorem q_keepDraft {s l : Nat} {d : Nat → Nat} {σ : Dz} (hs : s < 4) (hw : isWd 39 l d σ) {post : Int32 → Dz → Prop} (hp : ∀ σ', eqO (17 + 3 + 2 * s) (17 + 3 + 2 * s + 2) σ σ' → isWd (17 + 3 + 2 * s) l d σ' → post (nI l) σ') : P_X9_keepDraft σ (nI s) post := by
  unfold P_X9_keepDraft
  refine q_word hs (q_copyW hw (by omega) fun σ' he hw2 => ?_)
  show post (gz_i σ' 39 1) σ'
  rw [he.i (by omega), hw.1]
  exact hp σ' he hw2
end QWords
