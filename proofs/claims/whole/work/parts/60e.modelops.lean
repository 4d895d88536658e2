/-! words as lists, in the model -/
section QModelOps
def MM (l : List Nat) (σ : Dz) : Prop := (l.length ≤ 200 ∧ isMd l.length (fun q => l.getD q 0) false σ) ∨ (200 < l.length ∧ gz_i σ 43 22 = nI 200 ∧ gz_i σ 43 23 = 1)
theorem MM.out {l : List Nat} {σ : Dz} (h : MM l σ) : gz_i σ 43 22 = nI (min 200 l.length) := by
  rcases h with ⟨a, b⟩ | ⟨a, b, -⟩
  · rw [b.1, Nat.min_eq_right a]
  · rw [b, Nat.min_eq_left (by omega)]
theorem MM.rd {l : List Nat} {σ : Dz} (h : MM l σ) (hl : l.length ≤ 200) {q : Nat} (hq : q < l.length) : gz_i σ 59 q = nI (l.getD q 0) := by
  rcases h with ⟨a, b⟩ | ⟨a, -⟩
  · exact b.2.2.1 q hq
  · omega
theorem MM.keep {l : List Nat} {σ σ' : Dz} (h : MM l σ) (e59 : ∀ j, gz_i σ' 59 j = gz_i σ 59 j) (e1 : gz_i σ' 43 22 = gz_i σ 43 22) (e2 : gz_i σ' 43 23 = gz_i σ 43 23) : MM l σ' := by
  rcases h with ⟨a, b⟩ | ⟨a, b, c⟩
  · exact Or.inl ⟨a, by rw [e1]; exact b.1, b.2.1, fun i hi => by rw [e59]; exact b.2.2.1 i hi, by rw [e2]; exact b.2.2.2⟩
  · exact Or.inr ⟨a, by rw [e1]; exact b, by rw [e2]; exact c⟩
theorem mm_come {l : List Nat} {σ : Dz} (h : MM l σ) {x : Int32} {v : Nat} (hx : l.length ≤ 200 → x = nI v) {post : Dz → Prop} (hp : ∀ σ', eqC σ σ' → MM (l ++ [v]) σ' → post σ') : P_X10_comes σ x post := by
  have el : (l ++ [v]).length = l.length + 1 := List.length_append
  rcases h with ⟨a, b⟩ | ⟨a, b, c⟩
  · rw [hx a]
    refine m_comes b v fun σ' e w => hp σ' e ?_
    by_cases hl : l.length < 200
    · refine Or.inl ⟨by omega, w.cong (by omega) (fun i hi => ?_) ?_⟩
      · show _ = (l ++ [v]).getD i 0
        rw [gd_app]
        unfold catD
        split
        · rfl
        · rw [show i - l.length = 0 by omega]; rfl
      · rw [Bool.false_or]; exact decide_eq_false (by omega)
    · refine Or.inr ⟨by omega, by rw [w.1]; exact nI_c (by omega), ?_⟩
      rw [w.2.2.2, Bool.false_or, decide_eq_true (by omega)]; rfl
  · unfold P_X10_comes
    rw [b]
    exact bn_t rfl (hp _ ((ec_r σ).s43 (Or.inr rfl) _) (Or.inr ⟨by omega, by rw [gi_pl (by omega)]; exact b, gi_same _ _ _ _⟩))
theorem take_gd {m : List Nat} {p : Nat} (h : p < m.length) : m.take (p + 1) = m.take p ++ [m.getD p 0] := by
  rw [List.take_succ, List.getElem?_eq_getElem h, List.getD_eq_getElem?_getD, List.getElem?_eq_getElem h]; rfl
/-- too long: what comes changes nothing -/
def badM (σ : Dz) : Prop := gz_i σ 43 22 = nI 200 ∧ gz_i σ 43 23 = 1
theorem bad_come {σ : Dz} (h : badM σ) (x : Int32) {post : Dz → Prop} (hp : ∀ σ', eqC σ σ' → badM σ' → post σ') : P_X10_comes σ x post := by
  unfold P_X10_comes
  rw [h.1]
  exact bn_t rfl (hp _ ((ec_r σ).s43 (Or.inr rfl) _) ⟨by rw [gi_pl (by omega)]; exact h.1, gi_same _ _ _ _⟩)
/-- one copy of m -/
theorem mm_copy {u m r : List Nat} {σ : Dz} (h : MM (u ++ m ++ r) σ) {a b : Nat} (ha : a ≤ 200) (hb : b ≤ 200) (hab : (u ++ m ++ r).length ≤ 200 → a = u.length ∧ b = u.length + m.length) {post : Dz → Prop} {rc45 : Dz → Int32 → Int32 → Int32 → Prop} {y3 : Int32} (hr : ∀ σ', eqC σ σ' → MM (u ++ m ++ r ++ m) σ' → rc45 σ' (nI a) (nI b) (y3 + 1)) : ∃ n, L_X10_readsBehind_59 post rc45 n σ (nI a) (nI b) y3 (nI a) := by
  have el : (u ++ m ++ r).length = u.length + m.length + r.length := by rw [List.length_append, List.length_append]
  rcases h with ⟨g1, g2⟩ | ⟨g1, g2⟩
  · obtain ⟨rfl, rfl⟩ := hab g1
    have key : ∀ k p τ, p + k = m.length → eqC σ τ → MM (u ++ m ++ r ++ m.take p) τ → L_X10_readsBehind_59 post rc45 (k + 1) τ (nI u.length) (nI (u.length + m.length)) y3 (nI (u.length + p)) := by
      intro k
      induction k with
      | zero =>
        intro p τ hp e w
        show B_X10_readsBehind_59 _ _ _ _ _ _ _ _
        unfold B_X10_readsBehind_59
        have : p = m.length := by omega
        subst this
        rw [List.take_of_length_le (Nat.le_refl _)] at w
        exact br_t (Int32.le_refl _) (hr τ e w)
      | succ k ih =>
        intro p τ hp e w
        show B_X10_readsBehind_59 _ _ _ _ _ _ _ _
        unfold B_X10_readsBehind_59
        rw [nI_clamp (by omega)]
        refine br_f (by simp (disch := omega) only [fa_lit, nI_add, pk_mul, nI_ltI, nI_leI, nI_eq] <;> omega) ⟨vp_in_nI (by omega) (by omega), mm_come (v := m.getD p 0) w (fun hl => ?_) fun σ' e' w' => ?_⟩
        · rw [w.rd hl (by rw [List.length_append]; omega), gd_0 (by omega), gd_0 (by rw [List.length_append]; omega), gd_1 (by omega), Nat.add_sub_cancel_left]
        · rw [List.append_assoc, ← take_gd (by omega)] at w'
          rw [nI_1]
          exact ih (p + 1) σ' (by omega) (e.tr e') w'
    have := key m.length 0 σ (by omega) (ec_r σ) (by rw [List.take_zero, List.append_nil]; exact Or.inl ⟨g1, g2⟩)
    exact ⟨m.length + 1, this⟩
  · have key : ∀ k q τ, b ≤ q + k → q ≤ 400 → eqC σ τ → badM τ → L_X10_readsBehind_59 post rc45 (k + 1) τ (nI a) (nI b) y3 (nI q) := by
      intro k
      induction k with
      | zero =>
        intro q τ hq hq2 e w
        show B_X10_readsBehind_59 _ _ _ _ _ _ _ _
        unfold B_X10_readsBehind_59
        exact br_t (by simp (disch := omega) only [fa_lit, nI_add, pk_mul, nI_ltI, nI_leI, nI_eq] <;> omega) (hr τ e (Or.inr ⟨by rw [List.length_append]; omega, w⟩))
      | succ k ih =>
        intro q τ hq hq2 e w
        show B_X10_readsBehind_59 _ _ _ _ _ _ _ _
        unfold B_X10_readsBehind_59
        by_cases hd : b ≤ q
        · exact br_t (by simp (disch := omega) only [fa_lit, nI_add, pk_mul, nI_ltI, nI_leI, nI_eq] <;> omega) (hr τ e (Or.inr ⟨by rw [List.length_append]; omega, w⟩))
        · refine br_f (by simp (disch := omega) only [fa_lit, nI_add, pk_mul, nI_ltI, nI_leI, nI_eq] <;> omega) ⟨vp_in_nI (by omega) (by omega), bad_come w _ fun σ' e' w' => ?_⟩
          rw [nI_1]
          exact ih (q + 1) σ' (by omega) (by omega) (e.tr e') w'
    exact ⟨b + 1, key b a σ (by omega) (by omega) (ec_r σ) g2⟩
theorem mm_back {u m r : List Nat} {σ : Dz} (h : MM (u ++ m ++ r) σ) {a b : Nat} (ha : a ≤ 200) (hb : b ≤ 200) (hab : (u ++ m ++ r).length ≤ 200 → a = u.length ∧ b = u.length + m.length) {post : Dz → Prop} (hr : ∀ σ', eqC σ σ' → MM (u ++ m ++ r ++ invL m) σ' → post σ') : P_X10_comesBack σ (nI a) (nI b) post := by
  unfold P_X10_comesBack
  have el : (u ++ m ++ r).length = u.length + m.length + r.length := by rw [List.length_append, List.length_append]
  rcases h with ⟨g1, g2⟩ | ⟨g1, g2⟩
  · obtain ⟨rfl, rfl⟩ := hab g1
    have key : ∀ k p τ, p + k = m.length → eqC σ τ → MM (u ++ m ++ r ++ (invL m).take p) τ → L_X10_comesBack_4 post (k + 1) τ (nI u.length) (nI (u.length + k) - 1) := by
      intro k
      induction k with
      | zero =>
        intro p τ hp e w
        show B_X10_comesBack_4 _ _ _ _ _
        unfold B_X10_comesBack_4
        rw [List.take_of_length_le (by rw [inv_len]; omega)] at w
        exact br_t ((pm_lt (by omega) (by omega)).mpr (by omega)) (hr τ e w)
      | succ k ih =>
        intro p τ hp e w
        show B_X10_comesBack_4 _ _ _ _ _
        unfold B_X10_comesBack_4
        refine br_f (by rw [pm_lt (by omega) (by omega)]; omega) ?_
        rw [show nI (u.length + (k + 1)) - 1 = nI (u.length + k) from pm_s (u.length + k), nI_clamp (by omega)]
        refine ⟨vp_in_nI (by omega) (by omega), mm_come (v := (invL m).getD p 0) w (fun hl => ?_) fun σ' e' w' => ?_⟩
        · rw [w.rd hl (by rw [List.length_append]; omega), gd_0 (by omega), gd_0 (by rw [List.length_append]; omega), gd_1 (by omega), Nat.add_sub_cancel_left, q_xor1, gd_inv (by omega), show m.length - 1 - p = k by omega]
        · rw [List.append_assoc, ← take_gd (by rw [inv_len]; omega)] at w'
          rw [pm_m]
          exact ih (p + 1) σ' (by omega) (e.tr e') w'
    have := key m.length 0 σ (by omega) (ec_r σ) (by rw [List.take_zero, List.append_nil]; exact Or.inl ⟨g1, g2⟩)
    exact ⟨m.length + 1, this⟩
  · have key : ∀ k τ, k ≤ 400 → (a ≤ k → k < 300) → eqC σ τ → badM τ → L_X10_comesBack_4 post (k + 1) τ (nI a) (nI k - 1) := by
      intro k
      induction k with
      | zero =>
        intro τ hq hq2 e w
        show B_X10_comesBack_4 _ _ _ _ _
        unfold B_X10_comesBack_4
        exact br_t ((pm_lt (by omega) (by omega)).mpr (by omega)) (hr τ e (Or.inr ⟨by rw [List.length_append]; omega, w⟩))
      | succ k ih =>
        intro τ hq hq2 e w
        show B_X10_comesBack_4 _ _ _ _ _
        unfold B_X10_comesBack_4
        by_cases hd : k + 1 ≤ a
        · exact br_t ((pm_lt (by omega) (by omega)).mpr hd) (hr τ e (Or.inr ⟨by rw [List.length_append]; omega, w⟩))
        · refine br_f (by rw [pm_lt (by omega) (by omega)]; exact hd) ?_
          rw [pm_s]
          refine ⟨vp_in_nI (by omega) (by omega), bad_come w _ fun σ' e' w' => ?_⟩
          rw [pm_m]
          exact ih σ' (by omega) (by omega) (e.tr e') w'
    exact ⟨b + 1, key b σ (by omega) (by omega) (ec_r σ) g2⟩
/-- p pairs are swapped -/
def vS (G : Nat → Int32) (n p i : Nat) : Int32 := if i < p ∨ n - p ≤ i then G (n - 1 - i) else G i
theorem m_turnsG {a n : Nat} {σ : Dz} (hn : a + n ≤ 200) (g0 : gz_i σ 43 22 = nI (a + n)) {post : Dz → Prop} (hp : ∀ σ', eqO 59 60 σ σ' → (∀ i, i < a → gz_i σ' 59 i = gz_i σ 59 i) → (∀ i, i < n → gz_i σ' 59 (a + i) = gz_i σ 59 (a + (n - 1 - i)) ^^^ 1) → post σ') : P_X10_turns σ (nI a) post := by
  unfold P_X10_turns
  have key2 : ∀ k p τ, p + k = n → eqO 59 60 σ τ → (∀ i, i < a → gz_i τ 59 i = gz_i σ 59 i) → (∀ i, i < p → gz_i τ 59 (a + i) = gz_i σ 59 (a + (n - 1 - i)) ^^^ 1) → (∀ i, p ≤ i → i < n → gz_i τ 59 (a + i) = gz_i σ 59 (a + (n - 1 - i))) → L_X10_turns_70 post (k + 1) τ (nI (a + p)) := by
    intro k
    induction k with
    | zero =>
      intro p τ hk e v1 v2 v3
      show B_X10_turns_70 _ _ _ _
      unfold B_X10_turns_70
      rw [e.i (by omega), g0]
      have : p = n := by omega
      subst this
      exact br_t (Int32.le_refl _) (hp τ e v1 v2)
    | succ k ih =>
      intro p τ hk e v1 v2 v3
      show B_X10_turns_70 _ _ _ _
      unfold B_X10_turns_70
      rw [e.i (k := 43) (by omega), g0, nI_clamp (by omega)]
      refine br_f (by simp (disch := omega) only [fa_lit, nI_add, pk_mul, nI_ltI, nI_leI, nI_eq] <;> omega) ⟨vp_in_nI (by omega) (by omega), vp_in_nI (by omega) (by omega), ?_⟩
      rw [nI_1]
      refine ih (p + 1) _ (by omega) (e.si (by omega) (by omega) _ _) (fun i hi => by rw [gi_pl (by omega)]; exact v1 i hi) (fun i hi => ?_) (fun i hi hi2 => by rw [gi_pl (by omega)]; exact v3 i (by omega) hi2)
      by_cases hip : i = p
      · rw [hip, gi_same, v3 p (Nat.le_refl _) (by omega)]
      · rw [gi_pl (by omega)]; exact v2 i (by omega)
  have key : ∀ k p τ, p + k = n / 2 → eqO 59 60 σ τ → (∀ i, i < a → gz_i τ 59 i = gz_i σ 59 i) → (∀ i, i < n → gz_i τ 59 (a + i) = vS (fun q => gz_i σ 59 (a + q)) n p i) → L_X10_turns_9 post (k + 1) τ (nI a) (nI n) (nI p) := by
    intro k
    induction k with
    | zero =>
      intro p τ hk e v1 v2
      show B_X10_turns_9 _ _ _ _ _ _
      unfold B_X10_turns_9
      rw [show (2 : Int32) = nI 2 from rfl, pk_div (by omega) (by omega) (by decide)]
      refine br_t (by simp (disch := omega) only [fa_lit, nI_add, pk_mul, nI_ltI, nI_leI, nI_eq] <;> omega) ⟨n + 1, ?_⟩
      have := key2 n 0 τ (by omega) e v1 (fun i hi => absurd hi (Nat.not_lt_zero i)) (fun i _ hi => ?_)
      · exact this
      · rw [v2 i hi]
        unfold vS
        by_cases hc : i < p ∨ n - p ≤ i
        · rw [if_pos hc]
        · rw [if_neg hc, show n - 1 - i = i by omega]
    | succ k ih =>
      intro p τ hk e v1 v2
      show B_X10_turns_9 _ _ _ _ _ _
      unfold B_X10_turns_9
      have gO : gz_i τ 43 22 = nI (a + n) := by rw [e.i (by omega)]; exact g0
      have ei : nI (a + n) - 1 - nI p = nI (a + (n - 1 - p)) := by
        rw [show a + n = (a + n - 1) + 1 by omega, pm_s, pk_sub (by omega)]; exact nI_c (by omega)
      have gO2 : ∀ j v, gz_i (sz_i τ 59 j v) 43 22 = nI (a + n) := fun j v => by rw [gi_cell (by omega)]; exact gO
      rw [show (2 : Int32) = nI 2 from rfl, pk_div (by omega) (by omega) (by decide), gO, ei, nI_add, gO2, ei, nI_clamp (show a + p < 2 ^ 31 by omega), nI_clamp (show a + (n - 1 - p) < 2 ^ 31 by omega), nI_1]
      refine br_f (by simp (disch := omega) only [fa_lit, nI_add, pk_mul, nI_ltI, nI_leI, nI_eq] <;> omega) ⟨vp_in_nI (by omega) (by omega), vp_in_nI (by omega) (by omega), vp_in_nI (by omega) (by omega), vp_in_nI (by omega) (by omega), ?_⟩
      refine ih (p + 1) _ (by omega) ((e.si (by omega) (by omega) _ _).si (by omega) (by omega) _ _) (fun i hi => by rw [gi_pl (by omega), gi_pl (by omega)]; exact v1 i hi) (fun i hi => ?_)
      unfold vS
      by_cases h1 : i = n - 1 - p
      · rw [h1, gi_same, if_pos (by omega), v2 p (by omega)]
        unfold vS
        rw [if_neg (by omega), show n - 1 - (n - 1 - p) = p by omega]
      · rw [gi_pl (by omega)]
        by_cases h2 : i = p
        · rw [h2, gi_same, if_pos (by omega), v2 (n - 1 - p) (by omega)]
          unfold vS
          rw [if_neg (by omega)]
        · rw [gi_pl (by omega), v2 i hi]
          unfold vS
          by_cases hc : i < p ∨ n - p ≤ i
          · rw [if_pos hc, if_pos (by omega)]
          · rw [if_neg hc, if_neg (by omega)]
  rw [g0, pk_sub (by omega), Nat.add_sub_cancel_left]
  refine ⟨n / 2 + 1, key (n / 2) 0 σ (by omega) (eo_r _ _ _) (fun _ _ => rfl) (fun i hi => ?_)⟩
  unfold vS
  rw [if_neg (by omega)]
theorem mm_turns {u m : List Nat} {σ : Dz} (h : MM (u ++ m) σ) {post : Dz → Prop} (hp : ∀ σ', eqC σ σ' → MM (u ++ invL m) σ' → post σ') : P_X10_turns σ (nI (min 200 u.length)) post := by
  have el : (u ++ m).length = u.length + m.length := List.length_append
  have el2 : (u ++ invL m).length = u.length + m.length := by rw [List.length_append, inv_len]
  have ec : ∀ σ', eqO 59 60 σ σ' → eqC σ σ' := fun σ' e => ⟨fun k a b j => e k (by omega) j, fun j _ => e.i (by omega) j⟩
  rcases h with ⟨g1, g2⟩ | ⟨g1, g2, g3⟩
  · rw [Nat.min_eq_right (by omega)]
    have g22 := g2.1
    rw [el] at g22
    refine m_turnsG (n := m.length) (by omega) g22 fun σ' e v1 v2 => hp σ' (ec σ' e) (Or.inl ⟨by omega, by rw [e.i (by omega), g22, el2], by omega, fun i hi => ?_, by rw [e.i (by omega)]; exact g2.2.2.2⟩)
    show _ = nI ((u ++ invL m).getD i 0)
    by_cases hi2 : i < u.length
    · rw [v1 i hi2, g2.2.2.1 i (by omega), gd_0 hi2]
      show nI ((u ++ m).getD i 0) = _
      rw [gd_0 hi2]
    · have := v2 (i - u.length) (by omega)
      rw [show u.length + (i - u.length) = i by omega] at this
      rw [this, gd_1 (by omega), gd_inv (by omega), g2.2.2.1 _ (by omega), q_xor1]
      show nI ((u ++ m).getD _ 0 ^^^ 1) = _
      rw [gd_1 (by omega), Nat.add_sub_cancel_left]
  · refine m_turnsG (n := 200 - min 200 u.length) (by omega) (by rw [g2]; exact nI_c (by omega)) fun σ' e v1 v2 => hp σ' (ec σ' e) (Or.inr ⟨by omega, by rw [e.i (by omega)]; exact g2, by rw [e.i (by omega)]; exact g3⟩)
end QModelOps
