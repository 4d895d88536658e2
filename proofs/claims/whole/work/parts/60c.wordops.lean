/-! words as lists, in the class -/
section QWordOps
theorem gd_app : ∀ (l m : List Nat) (i : Nat), (l ++ m).getD i 0 = if i < l.length then l.getD i 0 else m.getD (i - l.length) 0
  | [], m, i => (if_neg (Nat.not_lt_zero i)).symm
  | a :: l, m, 0 => (if_pos (Nat.zero_lt_succ l.length)).symm
  | a :: l, m, i + 1 => by
    have := gd_app l m i
    show (l ++ m).getD i 0 = if i + 1 < l.length + 1 then l.getD i 0 else m.getD (i + 1 - (l.length + 1)) 0
    rw [this]
    by_cases h : i < l.length
    · rw [if_pos h, if_pos (by omega)]
    · rw [if_neg h, if_neg (by omega), show i + 1 - (l.length + 1) = i - l.length by omega]
theorem gd_0 {l m : List Nat} {i : Nat} (h : i < l.length) : (l ++ m).getD i 0 = l.getD i 0 := by rw [gd_app, if_pos h]
theorem gd_1 {l m : List Nat} {i : Nat} (h : l.length ≤ i) : (l ++ m).getD i 0 = m.getD (i - l.length) 0 := by rw [gd_app, if_neg (by omega)]
theorem inv_len (m : List Nat) : (invL m).length = m.length := by unfold invL; rw [List.length_reverse, List.length_map]
theorem gd_inv {m : List Nat} {i : Nat} (h : i < m.length) : (invL m).getD i 0 = m.getD (m.length - 1 - i) 0 ^^^ 1 := by
  unfold invL
  rw [List.getD_eq_getElem?_getD, List.getD_eq_getElem?_getD, List.getElem?_reverse (by rw [List.length_map]; exact h), List.getElem?_map, List.length_map, List.getElem?_eq_getElem (by omega)]; rfl
theorem rep_app (m : List Nat) : ∀ k, repL m (k + 1) = repL m k ++ m
  | 0 => by show m ++ [] = [] ++ m; rw [List.append_nil]; rfl
  | k + 1 => by
    have := rep_app m k
    show m ++ repL m (k + 1) = m ++ repL m k ++ m
    rw [this, List.append_assoc]
theorem rep_len (m : List Nat) : ∀ k, (repL m k).length = k * m.length
  | 0 => by rw [Nat.zero_mul]; rfl
  | k + 1 => by
    show (m ++ repL m k).length = _
    rw [List.length_append, rep_len m k, Nat.succ_mul, Nat.add_comm]
def isL (l : List Nat) (σ : Dz) : Prop := isWd 39 l.length (fun q => l.getD q 0) σ
theorem isL.of {l m : List Nat} {d : Nat → Nat} {n : Nat} {σ : Dz} (h : isWd 39 n d σ) (hn : n = (l ++ m).length) (e : ∀ i, i < n → d i = catD (fun q => l.getD q 0) l.length (fun q => m.getD q 0) i) : isL (l ++ m) σ := by
  subst hn
  refine isWd.cong h fun i hi => ?_
  rw [e i hi]
  show _ = (l ++ m).getD i 0
  rw [gd_app]; rfl
theorem isL.keep {l : List Nat} {σ σ' : Dz} (h : isL l σ) (e : ∀ c, 39 ≤ c → c < 41 → ∀ j, gz_i σ' c j = gz_i σ c j) : isL l σ' := isWd.keep h fun c a b j => e c a (by omega) j
theorem l_add {l : List Nat} {σ : Dz} (h : isL l σ) (v : Nat) {post : Int32 → Dz → Prop} (h1 : l.length < 200 → ∀ σ', eqO 39 41 σ σ' → isL (l ++ [v]) σ' → post 1 σ') (h0 : l.length = 200 → post 0 σ) : P_X6_add σ 39 (nI v) post := by
  refine q_add h v (fun hl σ' e w => h1 hl σ' e (isL.of w (by rw [List.length_append]; rfl) fun i hi => ?_)) h0
  unfold catD
  split
  · rfl
  · rw [show i - l.length = 0 by omega]; rfl
theorem l_part {u m r : List Nat} {σ : Dz} (h : isL (u ++ m ++ r) σ) {post : Int32 → Dz → Prop} (h1 : (u ++ m ++ r ++ m).length ≤ 200 → ∀ σ', eqO 39 41 σ σ' → isL (u ++ m ++ r ++ m) σ' → post 1 σ') (h0 : 200 < (u ++ m ++ r ++ m).length → ∀ σ', eqO 39 41 σ σ' → post 0 σ') : P_X6_addPart σ 39 39 (nI u.length) (nI (u.length + m.length)) post := by
  have hle := h.2.1
  have el : (u ++ m ++ r).length = u.length + m.length + r.length := by rw [List.length_append, List.length_append]
  have el2 : (u ++ m ++ r ++ m).length = (u ++ m ++ r).length + m.length := List.length_append
  refine q_addPart (w := 39) (w1 := 39) (a := u.length) (m := m.length) (g := fun q => m.getD q 0) h (by omega) (fun σ' l' d' _ w' hl hd q hq post' hp => ?_) (fun hm σ' e w => h1 (by omega) σ' e (isL.of w el2.symm fun i hi => rfl)) (fun hm σ' e => h0 (by omega) σ' e)
  refine q_at w' (by omega) ?_
  rw [hd _ (by omega), gd_0 (by rw [List.length_append]; omega), gd_1 (by omega), Nat.add_sub_cancel_left]
  exact hp
theorem l_repeat {u m : List Nat} {σ : Dz} (h : isL (u ++ m) σ) {k : Nat} (h2 : 2 ≤ k) (h9 : k ≤ 9) {post : Int32 → Dz → Prop} (h1 : (u ++ repL m k).length ≤ 200 → ∀ σ', eqO 39 41 σ σ' → isL (u ++ repL m k) σ' → post 1 σ') (h0 : 200 < (u ++ repL m k).length → ∀ σ', eqO 39 41 σ σ' → post 0 σ') : P_X6_repeatFrom σ 39 (nI u.length) (nI k) post := by
  unfold P_X6_repeatFrom
  rw [h.1, List.length_append]
  have hle := h.2.1
  have key : ∀ p i τ, i + p = k → 1 ≤ i → eqO 39 41 σ τ → isL (u ++ repL m i) τ → L_X6_repeatFrom_11 39 post (p + 2) τ (nI u.length) (nI k) (nI (u.length + m.length)) 1 (nI i) := by
    intro p
    induction p with
    | zero =>
      intro i τ hi h1i e w
      show B_X6_repeatFrom_11 _ _ _ _ _ _ _ _ _
      unfold B_X6_repeatFrom_11
      have : i = k := by omega
      subst this
      exact br_f (by decide) (br_t (by simp (disch := omega) only [fa_lit, nI_add, pk_mul, nI_ltI, nI_leI, nI_eq] <;> omega) ⟨Or.inr rfl, h1 w.2.1 τ e w⟩)
    | succ p ih =>
      intro i τ hi h1i e w
      show B_X6_repeatFrom_11 _ _ _ _ _ _ _ _ _
      unfold B_X6_repeatFrom_11
      obtain ⟨q, rfl⟩ : ∃ q, i = q + 1 := ⟨i - 1, by omega⟩
      have ew : u ++ repL m (q + 1) = u ++ m ++ repL m q := by rw [List.append_assoc]; rfl
      have ew2 : u ++ m ++ repL m q ++ m = u ++ repL m (q + 1 + 1) := by rw [← ew, List.append_assoc, ← rep_app]
      rw [ew] at w
      refine br_f (by decide) (br_f (by simp (disch := omega) only [fa_lit, nI_add, pk_mul, nI_ltI, nI_leI, nI_eq] <;> omega) (l_part w (fun hl σ' e' w' => ?_) (fun hl σ' e' => ?_)))
      · rw [ew2] at w'
        rw [nI_1]
        exact ih (q + 1 + 1) σ' (by omega) (by omega) (e.tr e') w'
      · show B_X6_repeatFrom_11 _ _ _ _ _ _ _ _ _
        unfold B_X6_repeatFrom_11
        refine br_t rfl ⟨Or.inl rfl, h0 ?_ σ' (e.tr e')⟩
        rw [ew2] at hl
        rw [List.length_append, rep_len] at hl ⊢
        have : (q + 1 + 1) * m.length ≤ k * m.length := Nat.mul_le_mul_right _ (by omega)
        omega
  refine ⟨k - 1 + 2, key (k - 1) 1 σ (by omega) (by omega) (eo_r _ _ _) ?_⟩
  show isL (u ++ (m ++ [])) σ
  rw [List.append_nil]; exact h
theorem l_close {u m1 m2 : List Nat} {σ : Dz} (h : isL (u ++ m1 ++ m2) σ) {post : Int32 → Dz → Prop} (h1 : (u ++ m1 ++ m2 ++ invL m1 ++ invL m2).length ≤ 200 → ∀ σ', eqO 39 41 σ σ' → isL (u ++ m1 ++ m2 ++ invL m1 ++ invL m2) σ' → post 1 σ') (h0 : 200 < (u ++ m1 ++ m2 ++ invL m1 ++ invL m2).length → ∀ σ', eqO 39 41 σ σ' → post 0 σ') : P_X6_closeCommutator σ 39 (nI u.length) (nI (u.length + m1.length)) post := by
  unfold P_X6_closeCommutator
  have hle := h.2.1
  have e1 : (u ++ m1 ++ m2).length = u.length + m1.length + m2.length := by rw [List.length_append, List.length_append]
  have e2 : (u ++ m1 ++ m2 ++ invL m1).length = (u ++ m1 ++ m2).length + m1.length := by rw [List.length_append, inv_len]
  have e3 : (u ++ m1 ++ m2 ++ invL m1 ++ invL m2).length = (u ++ m1 ++ m2 ++ invL m1).length + m2.length := by rw [List.length_append, inv_len]
  rw [h.1]
  refine q_addInv (w := 39) (w1 := 39) (a := u.length) (m := m1.length) (g := fun q => m1.getD q 0) h (by omega) (fun σ' l' d' _ w' hl hd q hq post' hp => ?_) (fun hm σ' e w => ?_) (fun hm σ' e => br_t rfl (h0 (by omega) σ' e))
  · refine q_at w' (by omega) ?_
    rw [hd _ (by omega), gd_0 (by rw [List.length_append]; omega), gd_1 (by omega), Nat.add_sub_cancel_left]
    exact hp
  · have w2 : isL (u ++ m1 ++ m2 ++ invL m1) σ' := isL.of w e2.symm fun i hi => by
      unfold catD
      split
      · rfl
      · exact (gd_inv (m := m1) (by omega)).symm
    rw [e1]
    refine br_f (by decide) (q_addInv (w := 39) (w1 := 39) (a := u.length + m1.length) (m := m2.length) (g := fun q => m2.getD q 0) w2 (by omega) (fun σ' l' d' _ w' hl hd q hq post' hp => ?_) (fun hm2 σ2 e' w' => ?_) (fun hm2 σ2 e' => br_t rfl (h0 (by omega) σ2 (e.tr e'))))
    · refine q_at w' (by omega) ?_
      rw [hd _ (by omega), gd_0 (by omega), gd_1 (by rw [List.length_append]; omega), List.length_append, Nat.add_sub_cancel_left]
      exact hp
    · refine br_f (by decide) (h1 (by omega) σ2 (e.tr e') (isL.of w' e3.symm fun i hi => ?_))
      unfold catD
      split
      · rfl
      · exact (gd_inv (m := m2) (by omega)).symm
/-- p letters from each end are turned -/
def vI (m : List Nat) (p i : Nat) : Nat := if i < p ∨ m.length - p ≤ i then m.getD (m.length - 1 - i) 0 ^^^ 1 else m.getD i 0
theorem l_invert {u m : List Nat} {σ : Dz} (h : isL (u ++ m) σ) {post : Dz → Prop} (hp : ∀ σ', eqO 39 41 σ σ' → isL (u ++ invL m) σ' → post σ') : P_X6_invertFrom σ 39 (nI u.length) post := by
  unfold P_X6_invertFrom
  have hle : (u ++ m).length ≤ 200 := h.2.1
  have el : (u ++ m).length = u.length + m.length := List.length_append
  have key : ∀ f p τ, m.length + 2 ≤ 2 * p + 2 * f → 2 * p ≤ m.length + 1 → eqO 39 41 σ τ → gz_i τ 39 1 = nI (u.length + m.length) → (∀ i, i < u.length → gz_i τ 40 i = nI (u.getD i 0)) → (∀ i, i < m.length → gz_i τ 40 (u.length + i) = nI (vI m p i)) → L_X6_invertFrom_14 39 post f τ (nI (u.length + m.length - p) - 1) (nI (u.length + p)) := by
    intro f
    induction f with
    | zero => intro p τ h1 h2; omega
    | succ f ih =>
      intro p τ hf h2 e g0 g1 g2
      show B_X6_invertFrom_14 _ _ _ _ _ _
      unfold B_X6_invertFrom_14
      by_cases hd : m.length ≤ 2 * p
      · refine br_t ((pm_lt (by omega) (by omega)).mpr (by omega)) (hp τ e ⟨by rw [g0, List.length_append, inv_len], by rw [List.length_append, inv_len]; omega, fun i hi => ?_⟩)
        rw [List.length_append, inv_len] at hi
        show _ = nI ((u ++ invL m).getD i 0)
        by_cases hi2 : i < u.length
        · rw [g1 i hi2, gd_0 hi2]
        · have := g2 (i - u.length) (by omega)
          rw [show u.length + (i - u.length) = i by omega] at this
          rw [this, gd_1 (by omega), gd_inv (by omega)]
          unfold vI
          rw [if_pos (by omega)]
      · obtain ⟨R, hR⟩ : ∃ R, m.length - p = R + 1 := ⟨m.length - p - 1, by omega⟩
        have er : nI (u.length + m.length - p) - 1 = nI (u.length + R) := by rw [show u.length + m.length - p = u.length + R + 1 by omega, pm_s]
        refine br_f (by rw [pm_lt (by omega) (by omega)]; omega) ?_
        rw [er, nI_clamp (show u.length + R < 2 ^ 31 by omega), nI_clamp (show u.length + p < 2 ^ 31 by omega)]
        refine ⟨vp_in_nI (by omega) (by omega), vp_in_nI (by omega) (by omega), vp_in_nI (by omega) (by omega), vp_in_nI (by omega) (by omega), ?_⟩
        have gR : gz_i τ (39 + 1) (u.length + R) = nI (m.getD R 0) := by
          have := g2 R (by omega)
          rw [this]; unfold vI; rw [if_neg (by omega)]
        have gp : gz_i τ (39 + 1) (u.length + p) = nI (m.getD p 0) := by
          have := g2 p (by omega)
          rw [this]; unfold vI; rw [if_neg (by omega)]
        rw [gR, gp, q_xor1, q_xor1, pm_m, nI_1]
        have := ih (p + 1) (sz_i (sz_i τ (39 + 1) (u.length + R) (nI (m.getD p 0 ^^^ 1))) (39 + 1) (u.length + p) (nI (m.getD R 0 ^^^ 1))) (by omega) (by omega) ((e.si (by omega) (by omega) _ _).si (by omega) (by omega) _ _) (by rw [gi_cell (by omega), gi_cell (by omega)]; exact g0) (fun i hi => by rw [gi_pl (by omega), gi_pl (by omega)]; exact g1 i hi) (fun i hi => ?_)
        · rw [show u.length + m.length - (p + 1) = u.length + R by omega] at this
          exact this
        · unfold vI
          by_cases hip : i = p
          · rw [hip, gi_same, if_pos (by omega), show m.length - 1 - p = R by omega]
          · rw [gi_pl (by omega)]
            by_cases hiR : i = R
            · rw [hiR, gi_same, if_pos (by omega), show m.length - 1 - R = p by omega]
            · rw [gi_pl (by omega)]
              have := g2 i hi
              rw [this]
              unfold vI
              by_cases hc : i < p ∨ m.length - p ≤ i
              · rw [if_pos hc, if_pos (by omega)]
              · rw [if_neg hc, if_neg (by omega)]
  refine br_t (by rw [show (0 : Int32) = nI 0 from rfl, nI_leI (by decide) (by omega)]; omega) ⟨m.length + 1, ?_⟩
  have g0 := h.1
  rw [el] at g0
  rw [g0]
  have := key (m.length + 1) 0 σ (by omega) (by omega) (eo_r _ _ _) g0 (fun i hi => ?_) (fun i hi => ?_)
  · exact this
  · have : gz_i σ 40 i = nI ((u ++ m).getD i 0) := h.2.2 i (by omega)
    rw [this, gd_0 hi]
  · have : gz_i σ 40 (u.length + i) = nI ((u ++ m).getD (u.length + i) 0) := h.2.2 (u.length + i) (by omega)
    rw [this, gd_1 (by omega), Nat.add_sub_cancel_left]
    unfold vI
    rw [if_neg (by omega)]
end QWordOps
