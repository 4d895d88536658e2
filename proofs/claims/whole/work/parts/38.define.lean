/-! define -/
section QDefine
theorem m_here_in {A : Abs} (o : okA A) {σ : Dz} (h1 : gz_i σ 43 8 = nI A.tl) (h2 : ∀ i, i < A.tl → gz_i σ 49 i = nI (A.tx i)) {i : Nat} (ha : gz_i σ 43 18 = nI i) (hi : i < A.tl) {post : Int32 → Prop} (hp : post (nI (A.tx i))) : P_X10_here σ post := by
  unfold P_X10_here
  have hl := o.tl
  rw [h1, ha, nI_clamp (by omega), h2 i hi]
  exact br_f (by simp (disch := omega) only [fa_lit, nI_add, pk_mul, nI_ltI, nI_leI, nI_eq] <;> omega) ⟨vp_in_nI (by omega) (by omega), hp⟩
theorem m_here_end {A : Abs} (o : okA A) {σ : Dz} (h1 : gz_i σ 43 8 = nI A.tl) (ha : gz_i σ 43 18 = nI A.tl) {post : Int32 → Prop} (hp : post 0) : P_X10_here σ post := by
  unfold P_X10_here
  have hl := o.tl
  rw [h1, ha]
  exact br_t (by simp (disch := omega) only [fa_lit, nI_add, pk_mul, nI_ltI, nI_leI, nI_eq] <;> omega) hp
def MR (E U : Nat) (σ : Dz) : Prop := (∀ p, p < 7 → gz_i σ 57 (p + 1) = nI (imgN E p + 1)) ∧ gz_i σ 57 0 = nI 0 ∧ ∀ p, p < 7 → gz_i σ 58 (p + 1) = if U.testBit p then 1 else 0
theorem pos_ch {A : Abs} (o : okA A) {σ : Dz} (hn : gz_i σ 43 1 = nI A.n) {v : Nat} (hv : v < 1000) {post : Int32 → Prop} (h1 : 49 ≤ v ∧ v < 49 + A.n → post 1) (h2 : ¬ (49 ≤ v ∧ v < 49 + A.n) → post 0) : P_X10_isPosition σ (nI v - 48) post := by
  unfold P_X10_isPosition P_X10_in
  have h7 := o.n2
  rw [hn]
  by_cases hlo : v < 48
  · have h := pk_sneg (a := v) (b := 48) (by decide) hlo
    refine br_t ?_ ⟨Or.inl rfl, h2 (by omega)⟩
    have h : nI v - 48 < 0 := h
    rw [fa_lt] at h ⊢
    have e0 : (0 : Int32).toInt = 0 := by decide
    have e1 : (1 : Int32).toInt = 1 := by decide
    omega
  · rw [show nI v - 48 = nI (v - 48) from pk_sub (b := 48) (by omega)]
    by_cases h : v = 48
    · exact br_t (by simp (disch := omega) only [fa_lit, nI_add, pk_mul, nI_ltI, nI_leI, nI_eq] <;> omega) ⟨Or.inl rfl, h2 (by omega)⟩
    · refine br_f (by simp (disch := omega) only [fa_lit, nI_add, pk_mul, nI_ltI, nI_leI, nI_eq] <;> omega) ?_
      by_cases hhi : v < 49 + A.n
      · exact br_f (by simp (disch := omega) only [fa_lit, nI_add, pk_mul, nI_ltI, nI_leI, nI_eq] <;> omega) ⟨Or.inr rfl, h1 (by omega)⟩
      · exact br_t (by simp (disch := omega) only [fa_lit, nI_add, pk_mul, nI_ltI, nI_leI, nI_eq] <;> omega) ⟨Or.inl rfl, h2 (by omega)⟩
theorem m_cr {A : Abs} (o : okA A) {σ : Dz} (m : MI A σ) {post : Int32 → Dz → Prop} : ∀ k E U st σ', k ≤ A.tl → eqS 57 59 σ σ' → MR E U σ' → gz_i σ' 43 18 = nI (A.tl - k) → stOK k st → (∀ e, cr A.n A.tl A.tx k E U st = .inl e → ∀ σ'', eqS 57 59 σ σ'' → gz_i σ'' 43 18 = nI e → post 0 σ'') → (∀ F, cr A.n A.tl A.tx k E U st = .inr F → ∀ σ'', eqS 57 59 σ σ'' → (∀ p, p < 7 → gz_i σ'' 57 (p + 1) = nI (imgN F p + 1)) → gz_i σ'' 57 0 = nI 0 → post 1 σ'') →
    match st with
    | none => ∀ r, k ≤ r → L_X10_readsCycles_35 post (r + 1) σ' 1
    | some (a, f, l) => ∀ r y1 y2, k ≤ r → (a ≠ 0 → y1 = nI (f + 1) ∧ y2 = nI (l + 1)) → L_X10_readsCycle_16 (fun b τ => L_X10_readsCycles_35 post (r + 1) τ b) (k + 1) σ' y1 y2 (nI a) := by
  have h7 := o.n2
  have hl := o.tl
  have no : ∀ r τ, post 0 τ → L_X10_readsCycles_35 post (r + 1) τ 0 := by
    intro r τ h
    show B_X10_readsCycles_35 _ _ _ _
    unfold B_X10_readsCycles_35 B_X10_readsCycles_56
    exact br_t rfl (br_t rfl h)
  intro k
  induction k with
  | zero =>
    intro E U st σ' hk e h ha hs h1 h2
    have t1 : gz_i σ' 43 8 = nI A.tl := by rw [e.m (by omega)]; exact m.tl
    rw [Nat.sub_zero] at ha
    cases st with
    | none =>
      intro r _
      show B_X10_readsCycles_35 _ _ _ _
      unfold B_X10_readsCycles_35 B_X10_readsCycles_56
      refine br_f (by decide) (m_here_end o t1 ha (bn_f (by decide) (br_f (by decide) ?_)))
      rw [ha, t1]
      exact bn_t rfl (h2 E rfl σ' e h.1 h.2.1)
    | some q =>
      obtain ⟨a, f, l⟩ := q
      intro r y1 y2 _ _
      show B_X10_readsCycle_16 _ _ _ _ _ _
      unfold B_X10_readsCycle_16 B_X10_readsCycle_99
      have hf := no r σ' (h1 A.tl rfl σ' e ha)
      refine m_here_end o t1 ha ?_
      refine pos_ch (v := 0) o (by rw [e.m (by omega)]; exact m.n) (by omega) (fun z => absurd z (by omega)) (fun _ => br_t rfl ?_)
      by_cases h2 : nI a < 2
      · exact br_t h2 hf
      · exact br_f h2 (m_here_end o t1 ha (br_f (by decide) hf))
  | succ k ih =>
    intro E U st σ' hk e h ha hs h1 h2
    have t1 : gz_i σ' 43 8 = nI A.tl := by rw [e.m (by omega)]; exact m.tl
    have t2 : ∀ i, i < A.tl → gz_i σ' 49 i = nI (A.tx i) := fun i hi => by rw [e.i (by omega)]; exact m.tx i hi
    have t3 : gz_i σ' 43 1 = nI A.n := by rw [e.m (by omega)]; exact m.n
    have ht := o.tx (A.tl - (k + 1)) (by omega)
    have enx : nI (A.tl - (k + 1)) + 1 = nI (A.tl - k) := by rw [nI_1]; congr 1; omega
    cases st with
    | none =>
      intro r hr
      obtain ⟨r, rfl⟩ : ∃ r', r = r' + 1 := ⟨r - 1, by omega⟩
      rw [cr] at h1 h2
      show B_X10_readsCycles_35 _ _ _ _
      unfold B_X10_readsCycles_35 B_X10_readsCycles_56
      refine br_f (by decide) (m_here_in o t1 t2 ha (by omega) ?_)
      by_cases hc : A.tx (A.tl - (k + 1)) = 40
      · rw [if_pos hc] at h1 h2
        rw [hc]
        refine bn_t rfl ?_
        unfold P_X10_readsCycle
        rw [ha, enx]
        exact ⟨k + 1, ih E U (some (0, 0, 0)) _ (by omega) (e.s43 (by unfold scr; omega) _) ⟨fun p hp => by rw [gi_cell (by omega)]; exact h.1 p hp, by rw [gi_cell (by omega)]; exact h.2.1, fun p hp => by rw [gi_cell (by omega)]; exact h.2.2 p hp⟩ (gi_same _ _ _ _) ⟨by omega, fun z => absurd rfl z⟩ h1 h2 r 0 0 (by omega) (fun z => absurd rfl z)⟩
      · rw [if_neg hc] at h1 h2
        refine bn_f (by simp (disch := omega) only [fa_lit, nI_add, pk_mul, nI_ltI, nI_leI, nI_eq] <;> omega) (br_f (by decide) ?_)
        rw [ha, t1]
        exact bn_f (by simp (disch := omega) only [fa_lit, nI_add, pk_mul, nI_ltI, nI_leI, nI_eq] <;> omega) (h1 _ rfl σ' e ha)
    | some q =>
      obtain ⟨a, f, l⟩ := q
      intro r y1 y2 hr hy
      rw [cr] at h1 h2
      have hsk := hs.1
      show B_X10_readsCycle_16 _ _ _ _ _ _
      unfold B_X10_readsCycle_16
      have bad : (∀ τ, gz_i τ 43 18 = nI (A.tl - (k + 1)) → eqS 57 59 σ τ → post 0 τ) → (A.tx (A.tl - (k + 1)) = 41 → a < 2) → B_X10_readsCycle_99 (fun b τ => L_X10_readsCycles_35 post (r + 1) τ b) σ' y1 y2 (nI a) := by
        intro hp h41
        have hf := no r σ' (hp σ' ha e)
        unfold B_X10_readsCycle_99
        by_cases h2 : a < 2
        · exact br_t (by simp (disch := omega) only [fa_lit, nI_add, pk_mul, nI_ltI, nI_leI, nI_eq] <;> omega) hf
        · exact br_f (by simp (disch := omega) only [fa_lit, nI_add, pk_mul, nI_ltI, nI_leI, nI_eq] <;> omega) (m_here_in o t1 t2 ha (by omega) (br_f (by have : A.tx (A.tl - (k + 1)) ≠ 41 := fun z => h2 (h41 z); simp (disch := omega) only [fa_lit, nI_add, pk_mul, nI_ltI, nI_leI, nI_eq]; omega) hf))
      refine m_here_in o t1 t2 ha (by omega) (pos_ch o t3 (by omega) (fun hv => ?_) (fun hv => ?_))
      · have hne : ¬ A.tx (A.tl - (k + 1)) = 41 := by omega
        rw [if_neg hne] at h1 h2
        refine br_f (by decide) (m_here_in o t1 t2 ha (by omega) ?_)
        rw [show nI (A.tx (A.tl - (k + 1))) - 48 = nI (A.tx (A.tl - (k + 1)) - 49 + 1) by rw [show nI (A.tx (A.tl - (k + 1))) - 48 = nI (A.tx (A.tl - (k + 1)) - 48) from pk_sub (b := 48) (by omega)]; congr 1; omega, nI_clamp (by omega), h.2.2 _ (by omega)]
        refine ⟨vp_in_nI (by omega) (by omega), ?_⟩
        cases hb : U.testBit (A.tx (A.tl - (k + 1)) - 49) with
        | true =>
          rw [if_neg (by rw [hb]; simp)] at h1
          exact bn_f (by decide) (bad (fun τ z1 z2 => h1 _ rfl τ z2 z1) (fun z => absurd z hne))
        | false =>
          rw [if_pos ⟨by omega, by omega, hb⟩] at h1 h2
          refine bn_t rfl (m_here_in o t1 t2 ha (by omega) ?_)
          rw [show nI (A.tx (A.tl - (k + 1))) - 48 = nI (A.tx (A.tl - (k + 1)) - 49 + 1) by rw [show nI (A.tx (A.tl - (k + 1))) - 48 = nI (A.tx (A.tl - (k + 1)) - 48) from pk_sub (b := 48) (by omega)]; congr 1; omega, nI_clamp (by omega)]
          refine ⟨vp_in_nI (by omega) (by omega), ?_⟩
          unfold B_X10_readsCycle_80
          have used : ∀ p, p < 7 → (if p + 1 = A.tx (A.tl - (k + 1)) - 49 + 1 then (1 : Int32) else if U.testBit p then 1 else 0) = if (U ||| 2 ^ (A.tx (A.tl - (k + 1)) - 49)).testBit p then 1 else 0 := by
            intro p hp
            by_cases ep : p = A.tx (A.tl - (k + 1)) - 49
            · rw [if_pos (by omega), if_pos (or_bit.mpr (Or.inr ep))]
            · rw [if_neg (by omega)]
              cases hu : U.testBit p with
              | true => rw [if_pos rfl, if_pos (or_bit.mpr (Or.inl hu))]
              | false =>
                rw [if_neg (by decide), if_neg]
                intro z
                rcases or_bit.mp z with z | z
                · rw [hu] at z; cases z
                · exact ep z
          by_cases h0 : a = 0
          · subst h0
            rw [if_pos rfl, if_pos rfl] at h1 h2
            refine bn_t rfl ?_
            rw [gi_cell (by omega), ha, enx, nI_1]
            refine ih E _ (some (0 + 1, _, _)) _ (by omega) ((e.si (by omega) (by omega) (by omega) _ _).s43 (by unfold scr; omega) _) ⟨fun p hp => by rw [gi_cell (by omega), gi_cell (by omega)]; exact h.1 p hp, by rw [gi_cell (by omega), gi_cell (by omega)]; exact h.2.1, fun p hp => ?_⟩ (gi_same _ _ _ _) ⟨by omega, fun _ => ⟨by omega, by omega⟩⟩ h1 h2 r _ _ (by omega) (fun _ => ⟨rfl, rfl⟩)
            rw [gi_cell (by omega), ← used p hp]
            by_cases ep : p + 1 = A.tx (A.tl - (k + 1)) - 49 + 1
            · rw [if_pos ep, ep, gi_same]
            · rw [if_neg ep, gi_pl ep]; exact h.2.2 p hp
          · rw [if_neg h0, if_neg h0] at h1 h2
            obtain ⟨hy1, hy2⟩ := hy h0
            have hfl := hs.2 h0
            refine bn_f (by simp (disch := omega) only [fa_lit, nI_add, pk_mul, nI_ltI, nI_leI, nI_eq] <;> omega) ?_
            rw [hy2, nI_clamp (by omega), gi_cell (by omega), gi_cell (by omega), ha, enx, nI_1]
            refine ⟨vp_in_nI (by omega) (by omega), ih _ _ (some (a + 1, _, _)) _ (by omega) (((e.si (by omega) (by omega) (by omega) _ _).si (by omega) (by omega) (by omega) _ _).s43 (by unfold scr; omega) _) ⟨fun p hp => ?_, ?_, fun p hp => ?_⟩ (gi_same _ _ _ _) ⟨by omega, fun _ => ⟨hfl.1, by omega⟩⟩ h1 h2 r _ _ (by omega) (fun _ => ⟨hy1, rfl⟩)⟩
            · rw [gi_cell (by omega), img_set hfl.2 (by omega) hp]
              by_cases ep : p = l
              · rw [if_pos ep, ep, gi_same]
              · rw [if_neg ep, gi_pl (by omega), gi_cell (by omega)]; exact h.1 p hp
            · rw [gi_cell (by omega), gi_pl (by omega), gi_cell (by omega)]; exact h.2.1
            · rw [gi_cell (by omega), gi_cell (by omega), ← used p hp]
              by_cases ep : p + 1 = A.tx (A.tl - (k + 1)) - 49 + 1
              · rw [if_pos ep, ep, gi_same]
              · rw [if_neg ep, gi_pl ep]; exact h.2.2 p hp
      · refine br_t rfl ?_
        by_cases hc : A.tx (A.tl - (k + 1)) = 41
        · rw [if_pos hc] at h1 h2
          by_cases h2a : a < 2
          · rw [if_pos h2a] at h1
            exact bad (fun τ z1 z2 => h1 _ rfl τ z2 z1) (fun _ => h2a)
          · rw [if_neg h2a] at h1 h2
            obtain ⟨hy1, hy2⟩ := hy (by omega)
            have hfl := hs.2 (by omega)
            unfold B_X10_readsCycle_99
            refine br_f (by simp (disch := omega) only [fa_lit, nI_add, pk_mul, nI_ltI, nI_leI, nI_eq] <;> omega) (m_here_in o t1 t2 ha (by omega) (br_t (by rw [hc]; rfl) ?_))
            rw [hy1, hy2, nI_clamp (by omega), gi_cell (by omega), ha, enx]
            refine ⟨vp_in_nI (by omega) (by omega), ih (setN E l f) U none _ (by omega) ((e.si (by omega) (by omega) (by omega) _ _).s43 (by unfold scr; omega) _) ⟨fun p hp => ?_, ?_, fun p hp => by rw [gi_cell (by omega), gi_cell (by omega)]; exact h.2.2 p hp⟩ (gi_same _ _ _ _) trivial h1 h2 r (by omega)⟩
            · rw [gi_cell (by omega), img_set hfl.2 (by omega) hp]
              by_cases ep : p = l
              · rw [if_pos ep, ep, gi_same]
              · rw [if_neg ep, gi_pl (by omega)]; exact h.1 p hp
            · rw [gi_cell (by omega), gi_pl (by omega)]; exact h.2.1
        · rw [if_neg hc] at h1
          rw [if_neg (by omega)] at h1
          exact bad (fun τ z1 z2 => h1 _ rfl τ z2 z1) (fun z => absurd z hc)
theorem m_readsCycles {A : Abs} (o : okA A) {σ : Dz} (m : MI A σ) {post : Int32 → Dz → Prop} (h1 : ∀ e, cr A.n A.tl A.tx A.tl 1754760 0 none = .inl e → ∀ σ'', eqS 57 59 σ σ'' → gz_i σ'' 43 18 = nI e → post 0 σ'') (h2 : ∀ F, cr A.n A.tl A.tx A.tl 1754760 0 none = .inr F → ∀ σ'', eqS 57 59 σ σ'' → (∀ p, p < 7 → gz_i σ'' 57 (p + 1) = nI (imgN F p + 1)) → gz_i σ'' 57 0 = nI 0 → post 1 σ'') : P_X10_readsCycles σ post := by
  unfold P_X10_readsCycles
  have key : ∀ k i σ', i + k = 8 → eqS 57 59 σ σ' → gz_i σ' 43 18 = 0 → (∀ p, p < i → gz_i σ' 57 p = nI p ∧ gz_i σ' 58 p = 0) → L_X10_readsCycles_7 post (k + 1) σ' (nI i) := by
    intro k
    induction k with
    | zero =>
      intro i σ' hi e ha t
      show B_X10_readsCycles_7 _ _ _ _
      unfold B_X10_readsCycles_7
      refine br_t (by simp (disch := omega) only [fa_lit, nI_add, pk_mul, nI_ltI, nI_leI, nI_eq] <;> omega) ⟨A.tl + 1, ?_⟩
      refine m_cr o m A.tl 1754760 0 none σ' (Nat.le_refl _) e ⟨fun p hp => ?_, (t 0 (by omega)).1, fun p hp => ?_⟩ (by rw [Nat.sub_self, ha]; rfl) trivial h1 h2 A.tl (Nat.le_refl _)
      · rw [img_id p hp]; exact (t (p + 1) (by omega)).1
      · rw [(t (p + 1) (by omega)).2, Nat.zero_testBit]; rfl
    | succ k ih =>
      intro i σ' hi e ha t
      show B_X10_readsCycles_7 _ _ _ _
      unfold B_X10_readsCycles_7
      rw [nI_clamp (by omega), nI_1]
      refine br_f (by simp (disch := omega) only [fa_lit, nI_add, pk_mul, nI_ltI, nI_leI, nI_eq] <;> omega) ⟨vp_in_nI (by omega) (by omega), vp_in_nI (by omega) (by omega), ih (i + 1) _ (by omega) ((e.si (by omega) (by omega) (by omega) _ _).si (by omega) (by omega) (by omega) _ _) (by rw [gi_cell (by omega), gi_cell (by omega)]; exact ha) (fun p hp => ?_)⟩
      by_cases ep : p = i
      · subst ep; exact ⟨by rw [gi_cell (by omega), gi_same], gi_same _ _ _ _⟩
      · exact ⟨by rw [gi_cell (by omega), gi_pl ep]; exact (t p (by omega)).1, by rw [gi_pl ep, gi_cell (by omega)]; exact (t p (by omega)).2⟩
  exact ⟨9, key 8 0 _ rfl ((es_r 57 59 σ).s43 (by unfold scr; omega) _) (gi_same _ _ _ _) (fun p hp => absurd hp (by omega))⟩
end QDefine
