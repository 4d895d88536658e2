/-! the class builds its table -/
section QBuild
theorem nI_m1 {d : Nat} (h : d < 2 ^ 31) : ¬ nI d = -1 := by
  intro e
  rw [fa_eq, nI_toInt h] at e
  have : (-1 : Int32).toInt = -1 := by decide
  omega
theorem lvq_has {Q : List (Nat × Nat)} {z : Nat} (nd : ndQ Q) (h : hasQ Q z = true) : ∃ i, i < Q.length ∧ (atQ Q i).1 = z ∧ lvI Q z = nI (atQ Q i).2 := by
  obtain ⟨d, hd⟩ := has_iff.mp h
  obtain ⟨i, h1, h2⟩ := mem_at hd
  have e : (atQ Q i).1 = z := by rw [h2]
  exact ⟨i, h1, e, by rw [← e]; exact lvQ_at nd h1⟩
abbrev QL : Type := List (Nat × Nat)
def CQ (n : Nat) (Q : QL) (σ : Dz) : Prop := (gz_i σ 12 5 = nI Q.length) ∧ (∀ i, i < Q.length → gz_i σ 14 i = nI (atQ Q i).1) ∧ (∀ x, isPk n x → gz_i σ 13 (rnkN x 7) = lvI Q x) ∧ (∀ e, e ∈ Q → isPk n e.1) ∧ (ndQ Q) ∧ (∀ e, e ∈ Q → e.2 ≤ 5040)
theorem CQ.sz {n : Nat} {Q : QL} {σ : Dz} (h : CQ n Q σ) : gz_i σ 12 5 = nI Q.length := h.1
theorem CQ.ar {n : Nat} {Q : QL} {σ : Dz} (h : CQ n Q σ) : ∀ i, i < Q.length → gz_i σ 14 i = nI (atQ Q i).1 := h.2.1
theorem CQ.lv {n : Nat} {Q : QL} {σ : Dz} (h : CQ n Q σ) : ∀ x, isPk n x → gz_i σ 13 (rnkN x 7) = lvI Q x := h.2.2.1
theorem CQ.pk {n : Nat} {Q : QL} {σ : Dz} (h : CQ n Q σ) : ∀ e, e ∈ Q → isPk n e.1 := h.2.2.2.1
theorem CQ.nd {n : Nat} {Q : QL} {σ : Dz} (h : CQ n Q σ) : ndQ Q := h.2.2.2.2.1
theorem CQ.dp {n : Nat} {Q : QL} {σ : Dz} (h : CQ n Q σ) : ∀ e, e ∈ Q → e.2 ≤ 5040 := h.2.2.2.2.2
/-- cells 13, 14 and the size may change -/
def eqR (σ σ' : Dz) : Prop := eqO 12 15 σ σ' ∧ ∀ j, j ≠ 5 → gz_i σ' 12 j = gz_i σ 12 j
theorem er_r (σ : Dz) : eqR σ σ := ⟨eo_r _ _ _, fun _ _ => rfl⟩
theorem eqR.tr {σ σ' σ'' : Dz} (h : eqR σ σ') (h2 : eqR σ' σ'') : eqR σ σ'' := ⟨h.1.tr h2.1, fun j hj => (h2.2 j hj).trans (h.2 j hj)⟩
theorem q_reach {n : Nat} (h2 : 2 ≤ n) (h7 : n ≤ 7) {Q : List (Nat × Nat)} {σ : Dz} (c : CQ n Q σ) {z d : Nat} (hz : isPk n z) (hd : d ≤ 5040) {post : Dz → Prop} (hp : ∀ σ', eqR σ σ' → CQ n (qPut d z Q) σ' → post σ') : P_X2_reach σ (nI z) (nI d) post := by
  unfold P_X2_reach
  have hr := rank_lt h2 h7 hz
  have hf := fct_le h7
  have hlen := nd_le h2 h7 c.nd c.pk
  have hz1 := hz.1
  refine q_rankOf (by omega) hz.2.1 ?_
  refine br_f (qn_lt (by omega)) (br_f (by simp (disch := omega) only [fa_lit, nI_add, pk_mul, nI_ltI, nI_leI, nI_eq] <;> omega) ?_)
  rw [c.sz]
  by_cases hfull : Q.length < 5040
  · refine br_t (by simp (disch := omega) only [fa_lit, nI_add, pk_mul, nI_ltI, nI_leI, nI_eq] <;> omega) ⟨vp_in_nI (by omega) (by omega), ?_⟩
    rw [nI_clamp (by omega), c.lv z hz]
    cases hh : hasQ Q z with
    | true =>
      obtain ⟨i, i1, i2, i3⟩ := lvq_has c.nd hh
      have := c.dp _ (at_mem i1)
      refine bn_f (by rw [i3]; exact nI_m1 (by omega)) (hp σ (er_r σ) (by rw [put_no hh]; exact c))
    | false =>
      have e1 : gz_i (sz_i σ 13 (rnkN z 7) (nI d)) 12 5 = nI Q.length := by rw [gi_cell (by omega)]; exact c.sz
      refine bn_t (lvQ_none hh) ⟨vp_in_nI (by omega) (by omega), ?_⟩
      rw [e1]
      refine ⟨vp_in_nI (by omega) (by omega), ?_⟩
      rw [nI_clamp (by omega)]
      have e2 : gz_i (sz_i (sz_i σ 13 (rnkN z 7) (nI d)) 14 Q.length (nI z)) 12 5 = nI Q.length := by rw [gi_cell (by omega)]; exact e1
      rw [e2, nI_1]
      have hq : qPut d z Q = Q ++ [(z, d)] := if_neg (by rw [hh]; decide)
      refine hp _ ⟨((((eo_r 12 15 σ).si (by omega) (by omega) _ _).si (by omega) (by omega) _ _).si (by omega) (by omega) _ _), fun j hj => by rw [gi_pl hj, gi_cell (by omega), gi_cell (by omega)]⟩ ⟨?_, fun i hi => ?_, fun x hx => ?_, put_pk c.pk hz, put_nd c.nd, fun e he => ?_⟩
      · rw [gi_same, hq, List.length_append, List.length_singleton]
      · rw [hq] at hi ⊢
        rw [List.length_append, List.length_singleton] at hi
        rw [gi_cell (by omega)]
        by_cases hi2 : i = Q.length
        · subst hi2; rw [gi_same, at_e]
        · rw [gi_pl hi2, gi_cell (by omega), at_l (by omega)]; exact c.ar i (by omega)
      · rw [gi_cell (by omega), gi_cell (by omega), lvQ_put]
        by_cases hx2 : x = z
        · rw [if_pos ⟨hx2, hh⟩, hx2, gi_same]
        · rw [if_neg (fun h => hx2 h.1), gi_pl (fun h => hx2 (rank_inj hx hz h))]; exact c.lv x hx
      · rw [hq] at he
        rcases List.mem_append.mp he with a | a
        · exact c.dp e a
        · rw [List.mem_singleton.mp a]; exact hd
  · refine br_f (by simp (disch := omega) only [fa_lit, nI_add, pk_mul, nI_ltI, nI_leI, nI_eq] <;> omega) (hp σ (er_r σ) ?_)
    rw [put_no (nd_full h2 h7 c.nd c.pk (by omega) hz)]; exact c
def TQ (T : List Nat) (σ : Dz) : Prop := gz_i σ 12 4 = nI T.length ∧ ∀ j, j < T.length → gz_i σ 16 j = nI (T.getD j 0)
theorem TQ.keep {T : List Nat} {σ σ' : Dz} (h : TQ T σ) (e : eqR σ σ') : TQ T σ' := ⟨by rw [e.2 4 (by omega)]; exact h.1, fun j hj => by rw [e.1.i (by omega)]; exact h.2 j hj⟩
theorem q_isListed {T : List Nat} {σ : Dz} (h : TQ T σ) (hT : T.length ≤ 9) (hb : ∀ j, j < T.length → T.getD j 0 < 2 ^ 31) {e : Nat} (he : e < 2 ^ 31) {post : Int32 → Prop} (hp : post (if e ∈ T then 1 else 0)) : P_X2_isListed σ (nI e) post := by
  unfold P_X2_isListed
  have key : ∀ k i, i + k = T.length → (∀ j, j < i → T.getD j 0 ≠ e) → L_X2_isListed_2 σ post (k + 1) (nI e) (nI i) := by
    intro k
    induction k with
    | zero =>
      intro i hi hn
      show B_X2_isListed_2 _ _ _ _ _
      unfold B_X2_isListed_2
      rw [h.1]
      refine br_t (by simp (disch := omega) only [fa_lit, nI_add, pk_mul, nI_ltI, nI_leI, nI_eq] <;> omega) ?_
      rw [if_neg (fun z => by obtain ⟨j, a, b⟩ := memD.mp z; exact hn j (by omega) b)] at hp
      exact hp
    | succ k ih =>
      intro i hi hn
      show B_X2_isListed_2 _ _ _ _ _
      unfold B_X2_isListed_2
      rw [h.1, nI_clamp (by omega), h.2 i (by omega)]
      refine br_f (by simp (disch := omega) only [fa_lit, nI_add, pk_mul, nI_ltI, nI_leI, nI_eq] <;> omega) ⟨vp_in_nI (by omega) (by omega), ?_⟩
      have hbi := hb i (by omega)
      by_cases hh : T.getD i 0 = e
      · refine bn_t (by rw [hh]) ?_
        rw [if_pos (memD.mpr ⟨i, by omega, hh⟩)] at hp
        exact hp
      · refine bn_f (by rw [nI_eq hbi he]; exact hh) ?_
        rw [nI_1]
        refine ih (i + 1) (by omega) fun j hj => ?_
        by_cases hji : j = i
        · rw [hji]; exact hh
        · exact hn j (by omega)
  exact ⟨T.length + 1, key T.length 0 (by omega) (fun j hj => absurd hj (Nat.not_lt_zero j))⟩
/-- cells 12, field 4, and 16 may change -/
def eqT (σ σ' : Dz) : Prop := (∀ k, k ≠ 12 → k ≠ 16 → ∀ j, gz_i σ' k j = gz_i σ k j ∧ gz_f σ' k j = gz_f σ k j ∧ gz_d σ' k j = gz_d σ k j ∧ gz_l σ' k j = gz_l σ k j)
theorem et_r (σ : Dz) : eqT σ σ := fun _ _ _ _ => ⟨rfl, rfl, rfl, rfl⟩
theorem eqT.tr {σ σ' σ'' : Dz} (h : eqT σ σ') (h2 : eqT σ' σ'') : eqT σ σ'' := fun k a b j => ⟨(h2 k a b j).1.trans (h k a b j).1, (h2 k a b j).2.1.trans (h k a b j).2.1, (h2 k a b j).2.2.1.trans (h k a b j).2.2.1, (h2 k a b j).2.2.2.trans (h k a b j).2.2.2⟩
theorem eqT.si {σ σ' : Dz} (h : eqT σ σ') {k : Nat} (hk : k = 12 ∨ k = 16) (j : Nat) (v : Int32) : eqT σ (sz_i σ' k j v) := h.tr fun k' a b j' => ⟨gi_cell (by omega), rfl, rfl, rfl⟩
theorem q_listTurns {n : Nat} {S : Sit} (o : okSit n S) {σ : Dz} (c : CSit 17 S σ) {post : Dz → Prop} (hp : ∀ σ', eqT σ σ' → TQ (turnsN S.ef 10) σ' → post σ') : P_X2_listTurns σ 17 post := by
  unfold P_X2_listTurns
  have bd : ∀ l, l ≤ 10 → ∀ j, j < (turnsN S.ef l).length → (turnsN S.ef l).getD j 0 < 2097152 := by
    intro l hl j hj
    obtain ⟨q, h1, h2⟩ := turns_mem (memD.mpr ⟨j, hj, rfl⟩)
    rw [h2]; exact (o.pk q (by omega)).1
  have key : ∀ k l τ, l + k = 10 → eqT σ τ → TQ (turnsN S.ef l) τ → L_X2_listTurns_7 17 post (k + 1) τ (nI l) := by
    intro k
    induction k with
    | zero =>
      intro l τ hl e t
      have : l = 10 := by omega
      subst this
      show B_X2_listTurns_7 _ _ _ _ _
      unfold B_X2_listTurns_7
      exact br_t (by simp (disch := omega) only [fa_lit, nI_add, pk_mul, nI_ltI, nI_leI, nI_eq] <;> omega) (hp τ e t)
    | succ k ih =>
      intro l τ hl e t
      show B_X2_listTurns_7 _ _ _ _ _
      unfold B_X2_listTurns_7
      have cs : CSit 17 S τ := c.keep fun q h1 h2 j => (e q (by omega) (by omega) j).1
      have hle := turns_le S.ef l
      have hx := (o.pk l (by omega)).1
      refine br_f (by simp (disch := omega) only [fa_lit, nI_add, pk_mul, nI_ltI, nI_leI, nI_eq] <;> omega) (br_f (by rw [t.1]; exact (by simp (disch := omega) only [fa_lit, nI_add, pk_mul, nI_ltI, nI_leI, nI_eq] <;> omega)) (q_effectOfLetter cs (by omega) ?_))
      unfold B_X2_listTurns_65
      have nx : ∀ τ', eqT σ τ' → TQ (turnsN S.ef (l + 1)) τ' → L_X2_listTurns_7 17 post (k + 1) τ' (nI l + 1) := fun τ' a b => by rw [nI_1]; exact ih (l + 1) τ' (by omega) a b
      by_cases h1 : S.ef l = 1754760
      · refine br_t (by rw [h1]; rfl) (nx τ e ?_)
        rw [turnsN, if_pos (Or.inl h1)]; exact t
      · refine br_f (by rw [show (1754760 : Int32) = nI 1754760 from rfl, nI_eq (by omega) (by decide)]; exact h1) ?_
        refine q_isListed t (by omega) (fun j hj => Nat.lt_trans (bd l (by omega) j hj) (by decide)) (by omega) ?_
        by_cases h3 : S.ef l ∈ turnsN S.ef l
        · rw [if_pos h3]
          refine bn_f (by decide) (nx τ e ?_)
          rw [turnsN, if_pos (Or.inr h3)]; exact t
        · rw [if_neg h3]
          have e1 : gz_i (sz_i τ 16 (turnsN S.ef l).length (nI (S.ef l))) 12 4 = nI (turnsN S.ef l).length := by rw [gi_cell (by omega)]; exact t.1
          refine bn_t rfl ?_
          rw [t.1]
          refine ⟨vp_in_nI (by omega) (by omega), ?_⟩
          rw [nI_clamp (by omega), e1, nI_1]
          refine nx _ ((e.si (Or.inr rfl) _ _).si (Or.inl rfl) _ _) ?_
          have ht : turnsN S.ef (l + 1) = turnsN S.ef l ++ [S.ef l] := by rw [turnsN, if_neg (fun z => z.elim h1 h3)]
          rw [ht]
          refine ⟨by rw [gi_same, List.length_append, List.length_singleton], fun j hj => ?_⟩
          rw [List.length_append, List.length_singleton] at hj
          rw [gi_cell (by omega), getD_app _ _ _ (by omega)]
          by_cases hj2 : j < (turnsN S.ef l).length
          · rw [if_pos hj2, gi_pl (by omega)]; exact t.2 j hj2
          · rw [if_neg hj2, show j = (turnsN S.ef l).length by omega, gi_same]
  refine ⟨11, key 10 0 _ rfl ((et_r σ).si (Or.inl rfl) _ _) ⟨gi_same _ _ _ _, fun j hj => absurd hj (Nat.not_lt_zero j)⟩⟩
theorem fct_step (i : Nat) (h : 1 ≤ i) : fctN (i - 1) * i = fctN i := by
  obtain ⟨k, rfl⟩ : ∃ k, i = k + 1 := ⟨i - 1, by omega⟩
  rfl
theorem q_clearT {n : Nat} (h2 : 2 ≤ n) (h7 : n ≤ 7) {σ : Dz} {post : Int32 → Dz → Prop} (hp : ∀ σ', eqO 12 14 σ σ' → (∀ j, j ≠ 5 → gz_i σ' 12 j = gz_i σ 12 j) → gz_i σ' 12 5 = 0 → (∀ r, r < fctN n → gz_i σ' 13 r = -1) → post (nI (fctN n)) σ') : P_X2_clear σ (nI n) post := by
  unfold P_X2_clear
  have hf := fct_le h7
  have key2 : ∀ k r τ, r + k = fctN n → eqO 13 14 σ τ → (∀ q, q < r → gz_i τ 13 q = -1) → L_X2_clear_27 post (k + 1) τ (nI (fctN n)) (nI r) := by
    intro k
    induction k with
    | zero =>
      intro r τ hr e hv
      show B_X2_clear_27 _ _ _ _ _
      unfold B_X2_clear_27
      refine br_t (by simp (disch := omega) only [fa_lit, nI_add, pk_mul, nI_ltI, nI_leI, nI_eq] <;> omega) (hp _ ((e.mono (by omega) (by omega)).si (by omega) (by omega) _ _) (fun j hj => by rw [gi_pl hj]; exact e.i (by omega) j) (gi_same _ _ _ _) (fun q hq => by rw [gi_cell (by omega)]; exact hv q (by omega)))
    | succ k ih =>
      intro r τ hr e hv
      show B_X2_clear_27 _ _ _ _ _
      unfold B_X2_clear_27
      refine br_f (by simp (disch := omega) only [fa_lit, nI_add, pk_mul, nI_ltI, nI_leI, nI_eq] <;> omega) (br_f (by simp (disch := omega) only [fa_lit, nI_add, pk_mul, nI_ltI, nI_leI, nI_eq] <;> omega) ⟨vp_in_nI (by omega) (by omega), ?_⟩)
      rw [nI_clamp (by omega), nI_1]
      refine ih (r + 1) _ (by omega) (e.si (by omega) (by omega) _ _) fun q hq => ?_
      by_cases hq2 : q = r
      · rw [hq2, gi_same]
      · rw [gi_pl hq2]; exact hv q (by omega)
  have key : ∀ k i, 2 ≤ i → i + k = n + 1 → L_X2_clear_4 post (k + 1) σ (nI n) (nI (fctN (i - 1))) (nI i) := by
    intro k
    induction k with
    | zero =>
      intro i h1 hi
      show B_X2_clear_4 _ _ _ _ _ _
      unfold B_X2_clear_4 B_X2_clear_25
      have : i - 1 = n := by omega
      rw [this]
      exact br_t (by simp (disch := omega) only [fa_lit, nI_add, pk_mul, nI_ltI, nI_leI, nI_eq] <;> omega) ⟨fctN n + 1, key2 (fctN n) 0 σ (by omega) (eo_r _ _ _) (fun q hq => absurd hq (Nat.not_lt_zero q))⟩
    | succ k ih =>
      intro i h1 hi
      show B_X2_clear_4 _ _ _ _ _ _
      unfold B_X2_clear_4
      refine br_f (by simp (disch := omega) only [fa_lit, nI_add, pk_mul, nI_ltI, nI_leI, nI_eq] <;> omega) (br_f (by simp (disch := omega) only [fa_lit, nI_add, pk_mul, nI_ltI, nI_leI, nI_eq] <;> omega) ?_)
      rw [pk_mul, fct_step i (by omega), nI_1]
      have := ih (i + 1) (by omega) (by omega)
      rw [show i + 1 - 1 = i by omega] at this
      exact this
  exact ⟨n - 1 + 1, key (n - 1) 2 (by omega) (by omega)⟩
theorem q_turns {n : Nat} (h2 : 2 ≤ n) (h7 : n ≤ 7) {T : List Nat} (hT : T.length ≤ 10) (pT : ∀ e, e ∈ T → isPk n e) {i lv x k1 : Nat} (hl : lv + 1 ≤ 5040) (hi : i < 5040) {post : Dz → Prop} {rc24 : Dz → Int32 → Int32 → Int32 → Prop} {rc51 : Dz → Int32 → Int32 → Int32 → Int32 → Prop} {y3 y6 : Int32} : ∀ m t Q σ, t + m = T.length → CQ n Q σ → TQ T σ → i < Q.length → (atQ Q i).1 = x → (∀ σ', eqR σ σ' → CQ n (qPuts (lv + 1) ((T.drop t).map (fun e => cmp x e)) Q) σ' → rc51 σ' y3 (nI lv) y6 (nI i + 1)) → L_X2_build_69 k1 post rc24 rc51 (m + 1) σ y3 (nI lv) y6 (nI i) (nI t) := by
  intro m
  induction m with
  | zero =>
    intro t Q σ ht c tq hiQ hx hr
    show B_X2_build_69 _ _ _ _ _ _ _ _ _ _ _
    unfold B_X2_build_69
    rw [tq.1]
    refine br_t (by simp (disch := omega) only [fa_lit, nI_add, pk_mul, nI_ltI, nI_leI, nI_eq] <;> omega) (hr σ (er_r σ) ?_)
    rw [List.drop_eq_nil_of_le (by omega)]
    exact c
  | succ m ih =>
    intro t Q σ ht c tq hiQ hx hr
    show B_X2_build_69 _ _ _ _ _ _ _ _ _ _ _
    unfold B_X2_build_69
    rw [tq.1, nI_clamp (show i < 2 ^ 31 by omega), nI_clamp (show t < 2 ^ 31 by omega), c.ar i hiQ, tq.2 t (by omega), hx]
    have pe := pT _ (memD.mpr ⟨t, by omega, rfl⟩)
    have px : isPk n x := by rw [← hx]; exact c.pk _ (at_mem hiQ)
    have pe1 := pe.1
    have px1 := px.1
    refine br_f (by simp (disch := omega) only [fa_lit, nI_add, pk_mul, nI_ltI, nI_leI, nI_eq] <;> omega) ⟨vp_in_nI (by omega) (by omega), vp_in_nI (by omega) (by omega), q_then (by omega) (by omega) ?_⟩
    rw [nI_1 lv]
    refine q_reach h2 h7 c (z := cmp x (T.getD t 0)) (px.cmp pe) hl fun σ' e c' => ?_
    rw [nI_1 t]
    have hpre : i < (qPut (lv + 1) (cmp x (T.getD t 0)) Q).length ∧ atQ (qPut (lv + 1) (cmp x (T.getD t 0)) Q) i = atQ Q i := by
      unfold qPut
      split
      · exact ⟨hiQ, rfl⟩
      · exact ⟨by rw [List.length_append]; omega, at_l hiQ⟩
    refine ih (t + 1) _ σ' (by omega) c' (tq.keep e) hpre.1 (by rw [hpre.2]; exact hx) fun σ'' e' c'' => ?_
    refine hr σ'' (e.tr e') ?_
    rw [drop_getD T t (by omega)]
    exact c''
end QBuild
