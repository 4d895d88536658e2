/-! the class's writer goes as the reader does -/
section QWriter
def eqW (σ σ' : Dz) : Prop := ∀ k, (k < 6 ∨ (9 ≤ k ∧ k < 39) ∨ 41 ≤ k) → ∀ j, gz_i σ' k j = gz_i σ k j ∧ gz_f σ' k j = gz_f σ k j ∧ gz_d σ' k j = gz_d σ k j ∧ gz_l σ' k j = gz_l σ k j
theorem ew_r (σ : Dz) : eqW σ σ := fun _ _ _ => ⟨rfl, rfl, rfl, rfl⟩
theorem eqW.tr {σ σ' σ'' : Dz} (h : eqW σ σ') (h2 : eqW σ' σ'') : eqW σ σ'' := fun k a j => ⟨(h2 k a j).1.trans (h k a j).1, (h2 k a j).2.1.trans (h k a j).2.1, (h2 k a j).2.2.1.trans (h k a j).2.2.1, (h2 k a j).2.2.2.trans (h k a j).2.2.2⟩
theorem eqW.i {σ σ' : Dz} (h : eqW σ σ') {k : Nat} (hk : k < 6 ∨ (9 ≤ k ∧ k < 39) ∨ 41 ≤ k) (j : Nat) : gz_i σ' k j = gz_i σ k j := (h k hk j).1
theorem eqO.w {a b : Nat} {σ σ' : Dz} (h : eqO a b σ σ') (hab : (6 ≤ a ∧ b ≤ 9) ∨ (39 ≤ a ∧ b ≤ 41)) : eqW σ σ' := fun k hk j => h k (by omega) j
theorem eqW.si {σ σ' : Dz} (h : eqW σ σ') {k : Nat} (hk : 6 ≤ k ∧ k < 9) (j : Nat) (v : Int32) : eqW σ (sz_i σ' k j v) := h.tr fun k' a j' => ⟨gi_cell (by omega), rfl, rfl, rfl⟩
def WKs (op : Nat) (st : Nat → Nat) (md : Nat → Nat) (le : Nat) (l : List Nat) (σ : Dz) : Prop := (gz_i σ 6 2 = nI op) ∧ (op ≤ 6) ∧ (∀ q, q < op → gz_i σ 7 q = nI (st q) ∧ st q ≤ 200) ∧ (∀ q, q < op → md q ≤ 200 → gz_i σ 8 q = nI (md q)) ∧ (gz_i σ 6 3 = nI le) ∧ (le ≤ 200) ∧ (isL l σ)
theorem WKs.o {op : Nat} {st : Nat → Nat} {md : Nat → Nat} {le : Nat} {l : List Nat} {σ : Dz} (h : WKs op st md le l σ) : gz_i σ 6 2 = nI op := h.1
theorem WKs.ol {op : Nat} {st : Nat → Nat} {md : Nat → Nat} {le : Nat} {l : List Nat} {σ : Dz} (h : WKs op st md le l σ) : op ≤ 6 := h.2.1
theorem WKs.s {op : Nat} {st : Nat → Nat} {md : Nat → Nat} {le : Nat} {l : List Nat} {σ : Dz} (h : WKs op st md le l σ) : ∀ q, q < op → gz_i σ 7 q = nI (st q) ∧ st q ≤ 200 := h.2.2.1
theorem WKs.m {op : Nat} {st : Nat → Nat} {md : Nat → Nat} {le : Nat} {l : List Nat} {σ : Dz} (h : WKs op st md le l σ) : ∀ q, q < op → md q ≤ 200 → gz_i σ 8 q = nI (md q) := h.2.2.2.1
theorem WKs.e {op : Nat} {st : Nat → Nat} {md : Nat → Nat} {le : Nat} {l : List Nat} {σ : Dz} (h : WKs op st md le l σ) : gz_i σ 6 3 = nI le := h.2.2.2.2.1
theorem WKs.el {op : Nat} {st : Nat → Nat} {md : Nat → Nat} {le : Nat} {l : List Nat} {σ : Dz} (h : WKs op st md le l σ) : le ≤ 200 := h.2.2.2.2.2.1
theorem WKs.w {op : Nat} {st : Nat → Nat} {md : Nat → Nat} {le : Nat} {l : List Nat} {σ : Dz} (h : WKs op st md le l σ) : isL l σ := h.2.2.2.2.2.2
theorem WKs.cong {op le : Nat} {st st' md md' : Nat → Nat} {l : List Nat} {σ : Dz} (h : WKs op st md le l σ) (e1 : ∀ q, q < op → st q = st' q) (e2 : ∀ q, q < op → md q = md' q) : WKs op st' md' le l σ := ⟨h.o, h.ol, fun q hq => by rw [← e1 q hq]; exact h.s q hq, fun q hq => by rw [← e2 q hq]; exact h.m q hq, h.e, h.el, h.w⟩
theorem WKs.word {op le : Nat} {st md : Nat → Nat} {l l' : List Nat} {σ σ' : Dz} (h : WKs op st md le l σ) (e : eqO 39 41 σ σ') (w : isL l' σ') : WKs op st md le l' σ' := ⟨by rw [e.i (by omega)]; exact h.o, h.ol, fun q hq => by rw [e.i (by omega)]; exact h.s q hq, fun q hq hm => by rw [e.i (by omega)]; exact h.m q hq hm, by rw [e.i (by omega)]; exact h.e, h.el, w⟩
theorem w_begin {op le : Nat} {st md : Nat → Nat} {l : List Nat} {σ : Dz} (h : WKs op st md le l σ) (h6 : op < 6) {s : Nat} (hs : s ≤ 200) {post : Int32 → Dz → Prop} (hp : ∀ σ', eqW σ σ' → WKs (op + 1) (skU st op s) (skU md op 201) le l σ' → post 1 σ') : P_X8_begin σ (nI s) post := by
  unfold P_X8_begin
  have e1 : gz_i (sz_i σ 7 op (nI s)) 6 2 = nI op := by rw [gi_cell (by omega)]; exact h.o
  rw [h.o]
  refine br_f (qn_lt (by omega)) (br_t (by simp (disch := omega) only [fa_lit, nI_add, pk_mul, nI_ltI, nI_leI, nI_eq] <;> omega) ⟨vp_in_nI (by omega) (by omega), ?_⟩)
  rw [nI_clamp (by omega), e1, nI_1]
  refine hp _ (((ew_r σ).si (by omega) _ _).si (by omega) _ _) ⟨gi_same _ _ _ _, by omega, fun q hq => ?_, fun q hq hm => ?_, by rw [gi_pl (by omega), gi_cell (by omega)]; exact h.e, h.el, h.w.keep fun c a b j => by rw [gi_cell (by omega), gi_cell (by omega)]⟩
  · rw [gi_cell (by omega)]
    unfold skU
    by_cases z : q = op
    · rw [if_pos z, z, gi_same]; exact ⟨rfl, hs⟩
    · rw [if_neg z, gi_pl z]; exact h.s q (by omega)
  · rw [gi_cell (by omega), gi_cell (by omega)]
    unfold skU at hm ⊢
    by_cases z : q = op
    · rw [if_pos z] at hm; omega
    · rw [if_neg z] at hm ⊢; exact h.m q (by omega) hm
theorem w_divide {op le : Nat} {st md : Nat → Nat} {l : List Nat} {σ : Dz} (h : WKs (op + 1) st md le l σ) {s : Nat} {post : Int32 → Dz → Prop} (hp : ∀ σ', eqW σ σ' → WKs (op + 1) st (skU md op s) le l σ' → post 1 σ') : P_X8_divide σ (nI s) post := by
  unfold P_X8_divide
  have ho := h.ol
  rw [h.o]
  refine br_f (fun z => absurd ((le_0 (by omega)).mp z) (by omega)) (br_t (by simp (disch := omega) only [fa_lit, nI_add, pk_mul, nI_ltI, nI_leI, nI_eq] <;> omega) ?_)
  rw [pm_s, nI_clamp (by omega)]
  refine ⟨vp_in_nI (by omega) (by omega), hp _ ((ew_r σ).si (by omega) _ _) ⟨by rw [gi_cell (by omega)]; exact h.o, h.ol, fun q hq => by rw [gi_cell (by omega)]; exact h.s q hq, fun q hq hm => ?_, by rw [gi_cell (by omega)]; exact h.e, h.el, h.w.keep fun c a b j => gi_cell (by omega)⟩⟩
  unfold skU at hm ⊢
  by_cases z : q = op
  · rw [if_pos z, z, gi_same]
  · rw [if_neg z] at hm ⊢
    rw [gi_pl z]; exact h.m q hq hm
theorem w_end {op le : Nat} {st md : Nat → Nat} {l : List Nat} {σ : Dz} (h : WKs (op + 1) st md le l σ) (b : Bool) {u m1 m2 : List Nat} (hb : b = true → l = u ++ m1 ++ m2 ∧ st op = u.length ∧ md op = u.length + m1.length ∧ md op ≤ 200) {post : Int32 → Dz → Prop} (h0 : b = false → ∀ σ', eqW σ σ' → WKs op st md (st op) l σ' → post 1 σ') (h1 : b = true → (u ++ m1 ++ m2 ++ invL m1 ++ invL m2).length ≤ 200 → ∀ σ', eqW σ σ' → WKs op st md (st op) (u ++ m1 ++ m2 ++ invL m1 ++ invL m2) σ' → post 1 σ') (h2 : b = true → 200 < (u ++ m1 ++ m2 ++ invL m1 ++ invL m2).length → ∀ σ', eqW σ σ' → post 0 σ') : P_X8_end σ 39 (if b then 1 else 0) post := by
  unfold P_X8_end
  have ho := h.ol
  have hs := h.s op (by omega)
  have e7 : gz_i (sz_i σ 6 2 (nI op)) 7 op = nI (st op) := by rw [gi_cell (by omega)]; exact hs.1
  have e62 : gz_i (sz_i (sz_i σ 6 2 (nI op)) 6 3 (nI (st op))) 6 2 = nI op := by rw [gi_pl (by omega), gi_same]
  have e72 : gz_i (sz_i (sz_i σ 6 2 (nI op)) 6 3 (nI (st op))) 7 op = nI (st op) := by rw [gi_cell (by omega)]; exact e7
  have eo : eqW σ (sz_i (sz_i σ 6 2 (nI op)) 6 3 (nI (st op))) := ((ew_r σ).si (by omega) _ _).si (by omega) _ _
  have wk : WKs op st md (st op) l (sz_i (sz_i σ 6 2 (nI op)) 6 3 (nI (st op))) := ⟨e62, by omega, fun q hq => by rw [gi_cell (by omega), gi_cell (by omega)]; exact h.s q (by omega), fun q hq hm => by rw [gi_cell (by omega), gi_cell (by omega)]; exact h.m q (by omega) hm, gi_same _ _ _ _, hs.2, h.w.keep fun c a b j => by rw [gi_cell (by omega), gi_cell (by omega)]⟩
  rw [h.o, pm_s]
  refine br_f (fun z => absurd ((le_0 (by omega)).mp z) (by omega)) (br_t (by simp (disch := omega) only [fa_lit, nI_add, pk_mul, nI_ltI, nI_leI, nI_eq] <;> omega) ?_)
  rw [gi_same, nI_clamp (by omega), e7, e62, nI_clamp (by omega), e72]
  refine ⟨vp_in_nI (by omega) (by omega), ?_⟩
  cases b with
  | false => exact br_t rfl (h0 rfl _ eo wk)
  | true =>
    obtain ⟨hl, hst, hmd, hml⟩ := hb rfl
    have e82 : gz_i (sz_i (sz_i σ 6 2 (nI op)) 6 3 (nI (st op))) 8 op = nI (md op) := by rw [gi_cell (by omega), gi_cell (by omega)]; exact h.m op (by omega) hml
    rw [e82]
    refine br_f (by decide) ⟨vp_in_nI (by omega) (by omega), vp_in_nI (by omega) (by omega), ?_⟩
    have wl := wk.w
    rw [hl] at wl
    generalize sz_i (sz_i σ 6 2 (nI op)) 6 3 (nI (st op)) = τ at *
    rw [hst, hmd]
    refine l_close wl (fun hle σ' e w => br_f (by decide) (h1 rfl hle σ' (eo.tr (e.w (by omega))) ?_)) (fun hle σ' e => br_t rfl (h2 rfl hle σ' (eo.tr (e.w (by omega)))))
    have := wk.word e w
    exact this
def WKK (L : Nat) (post : Int32 → Dz → Prop) (σ : Dz) (i : Nat) : Prop := L_X8_write_19 39 post (L + 1 - i) σ 1 (nI i)
def WKr (L : Nat) (post : Int32 → Dz → Prop) (i : Nat) (r : Int32) (σ : Dz) : Prop := L_X8_write_19 39 post (L - i) σ r (nI i + 1)
theorem w_k1 {L i : Nat} {post : Int32 → Dz → Prop} {σ : Dz} (h : WKK L post σ (i + 1)) : WKr L post i 1 σ := by
  unfold WKK at h; unfold WKr
  rw [nI_1, show L - i = L + 1 - (i + 1) by omega]; exact h
theorem w_k0 {L i : Nat} {post : Int32 → Dz → Prop} {σ : Dz} (hi : i < L) (h : post 0 σ) : WKr L post i 0 σ := by
  unfold WKr
  rw [show L - i = (L - i - 1) + 1 by omega]
  show B_X8_write_19 _ _ _ _ _ _
  unfold B_X8_write_19
  exact br_t rfl ⟨Or.inl rfl, h⟩
theorem w_step {A : Abs} (o : okA A) {σ0 σ : Dz} (c0 : CI A σ0) (e : eqW σ0 σ) {post : Int32 → Dz → Prop} {i : Nat} (hi : i < A.tl) (h : P_X8_writeNext σ 39 (nI (A.tx i)) (fun r τ => WKr A.tl post i r τ)) : WKK A.tl post σ i := by
  unfold WKK
  have hl := o.tl
  rw [show A.tl + 1 - i = (A.tl - i) + 1 by omega]
  show B_X8_write_19 _ _ _ _ _ _
  unfold B_X8_write_19 P_X5_length
  have hl1 : gz_i σ 1 1 = nI A.tl := by rw [e.i (by omega)]; exact c0.tl
  rw [hl1]
  exact br_f (by decide) (br_f (by simp (disch := omega) only [fa_lit, nI_add, pk_mul, nI_ltI, nI_leI, nI_eq] <;> omega) (q_textAt o hl1 (fun q hq => by rw [e.i (by omega)]; exact c0.tx q hq) hi h))
theorem w_end1 {A : Abs} (o : okA A) {σ0 σ : Dz} (c0 : CI A σ0) (e : eqW σ0 σ) {post : Int32 → Dz → Prop} (h : post 1 σ) : WKK A.tl post σ A.tl := by
  unfold WKK
  have hl := o.tl
  rw [show A.tl + 1 - A.tl = 0 + 1 by omega]
  show B_X8_write_19 _ _ _ _ _ _
  unfold B_X8_write_19 P_X5_length
  have hl1 : gz_i σ 1 1 = nI A.tl := by rw [e.i (by omega)]; exact c0.tl
  rw [hl1]
  exact br_f (by decide) (br_t (by simp (disch := omega) only [fa_lit, nI_add, pk_mul, nI_ltI, nI_leI, nI_eq] <;> omega) ⟨Or.inr rfl, h⟩)
def WE (A : Abs) (σ0 : Dz) (post : Int32 → Dz → Prop) (re : Nat → Nat → Res) (op : Nat) : Prop := ∀ i st md le l σ, i < A.tl → stC (chT A.tl A.tx i) = true → eqW σ0 σ → WKs op st md le l σ → ∀ j m, re op i = .inr (j, m) → (200 < (l ++ m).length → ∀ σ', eqW σ0 σ' → post 0 σ') → ((l ++ m).length ≤ 200 → ∀ σ', eqW σ0 σ' → WKs op st md l.length (l ++ m) σ' → WKK A.tl post σ' j) → WKK A.tl post σ i
def WW (A : Abs) (σ0 : Dz) (post : Int32 → Dz → Prop) (rw : Nat → Nat → Res) (op : Nat) : Prop := ∀ i st md le l σ, i ≤ A.tl → eqW σ0 σ → WKs op st md le l σ → ∀ j m, rw op i = .inr (j, m) → (200 < (l ++ m).length → ∀ σ', eqW σ0 σ' → post 0 σ') → ((l ++ m).length ≤ 200 → ∀ σ' le', eqW σ0 σ' → WKs op st md le' (l ++ m) σ' → WKK A.tl post σ' j) → WKK A.tl post σ i
theorem w_digits {A : Abs} (o : okA A) {σ0 : Dz} (c0 : CI A σ0) {post : Int32 → Dz → Prop} {op p : Nat} {st md : Nat → Nat} {u m : List Nat} {σ : Dz} (e : eqW σ0 σ) (h : WKs op st md u.length (u ++ m) σ) (hf : 200 < (u ++ (rdB2 A.tl A.tx p m).2).length → ∀ σ', eqW σ0 σ' → post 0 σ') (hs : (u ++ (rdB2 A.tl A.tx p m).2).length ≤ 200 → ∀ σ' le', eqW σ0 σ' → WKs op st md le' (u ++ (rdB2 A.tl A.tx p m).2) σ' → WKK A.tl post σ' (rdB2 A.tl A.tx p m).1) : WKK A.tl post σ p := by
  unfold rdB2 at hf hs
  by_cases hd : 50 ≤ chT A.tl A.tx p ∧ chT A.tl A.tx p ≤ 57
  · rw [if_pos hd] at hf hs
    have hp := ch_lt (L := A.tl) (t := A.tx) (i := p) (by omega)
    rw [ch_in hp] at hd hf hs
    refine w_step o c0 e hp ?_
    unfold P_X8_writeNext
    refine q_isName (by omega) (fun z => absurd z (by omega)) (fun _ => br_t rfl (br_f (by simp (disch := omega) only [fa_lit, nI_add, pk_mul, nI_ltI, nI_leI, nI_eq] <;> omega) (bn_f (by simp (disch := omega) only [fa_lit, nI_add, pk_mul, nI_ltI, nI_leI, nI_eq] <;> omega) (bn_f (by simp (disch := omega) only [fa_lit, nI_add, pk_mul, nI_ltI, nI_leI, nI_eq] <;> omega) (br_f (by simp (disch := omega) only [fa_lit, nI_add, pk_mul, nI_ltI, nI_leI, nI_eq] <;> omega) (bn_f (by simp (disch := omega) only [fa_lit, nI_add, pk_mul, nI_ltI, nI_leI, nI_eq] <;> omega) (bn_f (by simp (disch := omega) only [fa_lit, nI_add, pk_mul, nI_ltI, nI_leI, nI_eq] <;> omega) ?_)))))))
    rw [h.e, show nI (A.tx p) - 48 = nI (A.tx p - 48) from pk_sub (b := 48) (by omega)]
    refine l_repeat h.w (by omega) (by omega) (fun hl σ' e' w' => ⟨Or.inr rfl, w_k1 (hs hl σ' _ (e.tr (e'.w (by omega))) (h.word e' w'))⟩) (fun hl σ' e' => ⟨Or.inl rfl, w_k0 hp (hf hl σ' (e.tr (e'.w (by omega))))⟩)
  · rw [if_neg hd] at hf hs
    exact hs h.w.2.1 σ _ e h
theorem w_behind {A : Abs} (o : okA A) {σ0 : Dz} (c0 : CI A σ0) {post : Int32 → Dz → Prop} {op j : Nat} {st md : Nat → Nat} {u m : List Nat} {σ : Dz} (e : eqW σ0 σ) (h : WKs op st md u.length (u ++ m) σ) (hf : 200 < (u ++ (rdB A.tl A.tx j m).2).length → ∀ σ', eqW σ0 σ' → post 0 σ') (hs : (u ++ (rdB A.tl A.tx j m).2).length ≤ 200 → ∀ σ' le', eqW σ0 σ' → WKs op st md le' (u ++ (rdB A.tl A.tx j m).2) σ' → WKK A.tl post σ' (rdB A.tl A.tx j m).1) : WKK A.tl post σ j := by
  unfold rdB rdB1 at hf hs
  by_cases h39 : chT A.tl A.tx j = 39
  · rw [if_pos h39] at hf hs
    have hj := ch_lt (L := A.tl) (t := A.tx) (i := j) (by omega)
    rw [ch_in hj] at h39
    refine w_step o c0 e hj ?_
    rw [h39]
    unfold P_X8_writeNext
    refine q_isName (by omega) (fun z => absurd z (by omega)) (fun _ => br_t rfl (br_f (by decide) (bn_f (by decide) (bn_f (by decide) (br_f (by decide) (bn_f (by decide) (bn_t rfl ?_)))))))
    rw [h.e]
    refine l_invert h.w fun σ' e' w' => w_k1 ?_
    exact w_digits o c0 (m := invL m) (e.tr (e'.w (by omega))) (h.word e' w') hf hs
  · rw [if_neg h39] at hf hs
    exact w_digits o c0 (m := m) e h hf hs
theorem rdB_len {L j : Nat} {t : Nat → Nat} {m : List Nat} : m.length ≤ (rdB L t j m).2.length := by
  have h1 : (rdB1 L t j m).2.length = m.length := by
    unfold rdB1; split
    · exact inv_len m
    · rfl
  unfold rdB rdB2
  split
  · rename_i z
    show m.length ≤ (repL _ _).length
    rw [rep_len, h1]
    exact Nat.le_mul_of_pos_left _ (by omega)
  · show m.length ≤ (rdB1 L t j m).2.length
    omega
theorem w_loop {A : Abs} (o : okA A) {σ0 : Dz} (c0 : CI A σ0) {post : Int32 → Dz → Prop} {re : Nat → Nat → Res} {op : Nat} (he : WE A σ0 post re op) (pg : ∀ i, i < A.tl → PR A.tl (i + 1) (re op i)) : ∀ n i st md le l σ, A.tl + 1 ≤ n + i → i ≤ A.tl → eqW σ0 σ → WKs op st md le l σ → ∀ j m, rdL A.tl A.tx re op n i = .inr (j, m) → (200 < (l ++ m).length → ∀ σ', eqW σ0 σ' → post 0 σ') → ((l ++ m).length ≤ 200 → ∀ σ' le', eqW σ0 σ' → WKs op st md le' (l ++ m) σ' → WKK A.tl post σ' j) → WKK A.tl post σ i
  | 0, i, _, _, _, _, _, hn, hi, _, _, _, _, _, _, _ => absurd hn (by omega)
  | n + 1, i, st, md, le, l, σ, hn, hi, e, h, j, m, hr, hf, hs => by
    cases hst : stC (chT A.tl A.tx i) with
    | false =>
      have eq : rdL A.tl A.tx re op (n + 1) i = .inr (i, []) := by unfold rdL; rw [hst]; rfl
      rw [eq] at hr
      cases hr
      rw [List.append_nil] at hs
      exact hs h.w.2.1 σ le e h
    | true =>
      have hi2 : i < A.tl := ch_lt (t := A.tx) (by rw [stC_t] at hst; omega)
      have eq : rdL A.tl A.tx re op (n + 1) i = rdN A.tl A.tx (rdL A.tl A.tx re op n) (re op i) := by
        conv => lhs; unfold rdL
        rw [if_pos hst]
      rw [eq] at hr
      cases hre : re op i with
      | inl e' => rw [hre] at hr; cases hr
      | inr p =>
        obtain ⟨j1, m1⟩ := p
        rw [hre] at hr
        have hr : rdC (rdB A.tl A.tx j1 m1).2 (rdL A.tl A.tx re op n (rdB A.tl A.tx j1 m1).1) = .inr (j, m) := hr
        cases hr2 : rdL A.tl A.tx re op n (rdB A.tl A.tx j1 m1).1 with
        | inl e' => rw [hr2] at hr; cases hr
        | inr p2 =>
          obtain ⟨k, m2⟩ := p2
          rw [hr2] at hr
          have hr : (Sum.inr (k, (rdB A.tl A.tx j1 m1).2 ++ m2) : Res) = .inr (j, m) := hr
          cases hr
          have pj := (pg i hi2).2 j1 m1 hre
          have pb := pgB (t := A.tx) (m := m1) pj.2
          have hbl := rdB_len (L := A.tl) (t := A.tx) (j := j1) (m := m1)
          rw [← List.append_assoc] at hf hs
          have big : ∀ q, 200 < (l ++ q).length → q.length ≤ (rdB A.tl A.tx j1 m1).2.length → ∀ σ', eqW σ0 σ' → post 0 σ' := fun q hq hq2 => hf (by rw [List.length_append, List.length_append]; rw [List.length_append] at hq; omega)
          refine he i st md le l σ hi2 hst e h j1 m1 hre (fun hq => big m1 hq hbl) (fun _ σ1 e1 h1 => ?_)
          refine w_behind o c0 (m := m1) e1 h1 (fun hq => big _ hq (Nat.le_refl _)) (fun _ σ2 le2 e2 h2 => ?_)
          exact w_loop o c0 he pg n _ st md le2 _ σ2 (by omega) pb.2 e2 h2 _ m2 hr2 hf hs
theorem w_elem {A : Abs} (o : okA A) {σ0 : Dz} (c0 : CI A σ0) {post : Int32 → Dz → Prop} {rw : Nat → Nat → Res} {op : Nat} (hw : op < 6 → WW A σ0 post rw (op + 1)) (pg : ∀ i, i ≤ A.tl → PR A.tl i (rw (op + 1) i)) : WE A σ0 post (rdE A.tl A.tx rw) op := by
  intro i st md le l σ hi hst e h j m hr hf hs
  have hle := h.ol
  have hll := h.w.2.1
  by_cases hn : 97 ≤ chT A.tl A.tx i ∧ chT A.tl A.tx i ≤ 101
  · rw [rdE_name hn] at hr
    cases hr
    rw [ch_in hi] at hn hf hs
    refine w_step o c0 e hi ?_
    unfold P_X8_writeNext P_X6_length
    refine q_isName (by omega) (fun _ => br_f (by decide) ?_) (fun z => absurd hn z)
    rw [h.w.1, show (2 : Int32) * (nI (A.tx i) - 97) = nI (2 * (A.tx i - 97)) by rw [show nI (A.tx i) - 97 = nI (A.tx i - 97) from pk_sub (b := 97) (by omega), show (2 : Int32) = nI 2 from rfl, pk_mul]]
    have h1 : WKs op st md l.length l (sz_i σ 6 3 (nI l.length)) := ⟨by rw [gi_pl (by omega)]; exact h.o, h.ol, fun q hq => by rw [gi_cell (by omega)]; exact h.s q hq, fun q hq hm => by rw [gi_cell (by omega)]; exact h.m q hq hm, gi_same _ _ _ _, hll, h.w.keep fun c a b j => gi_cell (by omega)⟩
    have e1 : eqW σ0 (sz_i σ 6 3 (nI l.length)) := e.si (by omega) _ _
    refine l_add h1.w _ (fun hlt σ' e' w' => ⟨Or.inr rfl, w_k1 (hs w'.2.1 σ' (e1.tr (e'.w (by omega))) (h1.word e' w'))⟩) (fun hq => ⟨Or.inl rfl, w_k0 hi (hf (by rw [List.length_append, hq]; show 200 < 200 + 1; decide) _ e1)⟩)
  · have hc : A.tx i = 40 ∨ A.tx i = 60 := by
      rw [stC_t] at hst; rw [ch_in hi] at hst hn; omega
    rcases Nat.lt_or_ge op 6 with h6 | h6
    · rw [rdE_go hn (by omega), ch_in hi] at hr
      have hW := hw h6
      have hopen : ∀ K : Int32 → Dz → Prop, (∀ σ', eqW σ σ' → WKs (op + 1) (skU st op l.length) (skU md op 201) le l σ' → K 1 σ') → P_X8_writeNext σ 39 (nI (A.tx i)) K := fun K hK => by
        unfold P_X8_writeNext P_X6_length
        have hb : P_X8_begin σ (gz_i σ 39 1) (fun (r43 : Int32) (τ43 : Dz) => ((r43 = 0 ∨ r43 = 1) ∧ K r43 τ43)) := by
          rw [h.w.1]
          exact w_begin h h6 hll fun σ' e' h' => ⟨Or.inr rfl, hK σ' e' h'⟩
        refine q_isName (by omega) (fun z => absurd z (by omega)) (fun _ => br_t rfl ?_)
        rcases hc with z | z
        · exact br_t (by rw [z]; rfl) hb
        · exact br_f (by rw [z]; decide) (bn_t (by rw [z]; rfl) hb)
      refine w_step o c0 e hi (hopen _ fun σ1 e1 h1 => w_k1 ?_)
      cases hr1 : rw (op + 1) (i + 1) with
      | inl e' => rw [hr1] at hr; cases hr
      | inr p =>
        obtain ⟨j1, m1⟩ := p
        rw [hr1] at hr
        have pj := (pg (i + 1) hi).2 j1 m1 hr1
        rcases hc with h40 | h60
        · rw [h40, rdF_40] at hr
          by_cases h41 : chT A.tl A.tx j1 = 41
          · rw [if_pos h41] at hr
            cases hr
            have hjl := ch_lt (L := A.tl) (t := A.tx) (i := j1) (by omega)
            rw [ch_in hjl] at h41
            refine hW (i + 1) _ _ le l σ1 hi (e.tr e1) h1 j1 m hr1 hf (fun hq σ2 le2 e2 h2 => w_step o c0 e2 hjl ?_)
            rw [h41]
            unfold P_X8_writeNext B_X8_writeNext_74
            refine q_isName (by omega) (fun z => absurd z (by omega)) (fun _ => br_t rfl (br_f (by decide) (bn_f (by decide) (bn_f (by decide) (br_t rfl (bn_f (by decide) ?_))))))
            refine w_end (u := []) (m1 := []) (m2 := []) h2 false (fun z => by cases z) (fun _ σ3 e3 h3 => ⟨Or.inr rfl, w_k1 (hs hq σ3 (e2.tr e3) ?_)⟩) (fun z => by cases z) (fun z => by cases z)
            rw [sk_top] at h3
            exact h3.cong (fun q hq => sk_low hq) (fun q hq => sk_low hq)
          · rw [if_neg h41] at hr; cases hr
        · rw [h60, rdF_60] at hr
          by_cases h44 : chT A.tl A.tx j1 = 44
          · rw [if_pos h44] at hr
            have hjl := ch_lt (L := A.tl) (t := A.tx) (i := j1) (by omega)
            rw [ch_in hjl] at h44
            cases hr2 : rw (op + 1) (j1 + 1) with
            | inl e' => rw [hr2] at hr; cases hr
            | inr p2 =>
              obtain ⟨k, m2⟩ := p2
              rw [hr2] at hr
              have pk := (pg (j1 + 1) hjl).2 k m2 hr2
              by_cases h62 : chT A.tl A.tx k = 62
              · have es : rdG A.tl A.tx m1 (.inr (k, m2)) = .inr (k + 1, m1 ++ m2 ++ invL m1 ++ invL m2) := if_pos h62
                rw [es] at hr
                cases hr
                have hkl := ch_lt (L := A.tl) (t := A.tx) (i := k) (by omega)
                rw [ch_in hkl] at h62
                have eL : l ++ (m1 ++ m2 ++ invL m1 ++ invL m2) = l ++ m1 ++ m2 ++ invL m1 ++ invL m2 := by rw [← List.append_assoc, ← List.append_assoc, ← List.append_assoc]
                rw [eL] at hf hs
                have ln : (l ++ m1 ++ m2 ++ invL m1 ++ invL m2).length = (l ++ m1 ++ m2).length + m1.length + m2.length := by rw [List.length_append, List.length_append, inv_len, inv_len]
                have ln2 : (l ++ m1 ++ m2).length = (l ++ m1).length + m2.length := List.length_append
                refine hW (i + 1) _ _ le l σ1 hi (e.tr e1) h1 j1 m1 hr1 (fun hq => hf (by omega)) (fun hq1 σ2 le2 e2 h2 => w_step o c0 e2 hjl ?_)
                rw [h44]
                unfold P_X8_writeNext P_X6_length
                refine q_isName (by omega) (fun z => absurd z (by omega)) (fun _ => br_t rfl (br_f (by decide) (bn_f (by decide) (bn_t rfl ?_))))
                rw [h2.w.1]
                refine w_divide h2 fun σ3 e3 h3 => ⟨Or.inr rfl, w_k1 ?_⟩
                refine hW (j1 + 1) _ _ le2 (l ++ m1) σ3 hjl (e2.tr e3) h3 k m2 hr2 (fun hq => hf (by omega)) (fun hq2 σ4 le4 e4 h4 => w_step o c0 e4 hkl ?_)
                rw [h62]
                unfold P_X8_writeNext B_X8_writeNext_74
                refine q_isName (by omega) (fun z => absurd z (by omega)) (fun _ => br_t rfl (br_f (by decide) (bn_f (by decide) (bn_f (by decide) (br_f (by decide) (bn_t rfl (bn_t rfl ?_)))))))
                refine w_end (u := l) (m1 := m1) (m2 := m2) h4 true (fun _ => ⟨rfl, sk_top _ _ _, by rw [sk_top, List.length_append], by rw [sk_top]; omega⟩) (fun z => by cases z) (fun _ hq3 σ5 e5 h5 => ⟨Or.inr rfl, w_k1 (hs hq3 σ5 (e4.tr e5) ?_)⟩) (fun _ hq3 σ5 e5 => ⟨Or.inl rfl, w_k0 hkl (hf hq3 σ5 (e4.tr e5))⟩)
                rw [sk_top] at h5
                exact h5.cong (fun q hq => sk_low hq) (fun q hq => by rw [sk_low hq, sk_low hq])
              · have es : rdG A.tl A.tx m1 (.inr (k, m2)) = .inl k := if_neg h62
                rw [es] at hr; cases hr
          · rw [if_neg h44] at hr; cases hr
    · have : op = 6 := by omega
      subst this
      rw [rdE_six hn] at hr
      cases hr
theorem w_all {A : Abs} (o : okA A) {σ0 : Dz} (c0 : CI A σ0) {post : Int32 → Dz → Prop} : ∀ d op, d + 1 + op = 7 → WW A σ0 post (RW A.tl A.tx (d + 1)) op
  | 0, op, hd => fun i st md le l σ hi e h j m hr hf hs => w_loop o c0 (w_elem o c0 (fun z => by omega) (fun i hi => pgW A.tl A.tx 0 (op + 1) i hi)) (fun i hi => pgRE A.tl A.tx 0 op hi) 41 i st md le l σ (by have := o.tl; omega) hi e h j m hr hf hs
  | d + 1, op, hd => fun i st md le l σ hi e h j m hr hf hs => w_loop o c0 (w_elem o c0 (fun _ => w_all o c0 d (op + 1) (by omega)) (fun i hi => pgW A.tl A.tx (d + 1) (op + 1) i hi)) (fun i hi => pgRE A.tl A.tx (d + 1) op hi) 41 i st md le l σ (by have := o.tl; omega) hi e h j m hr hf hs
theorem rdT_r {L : Nat} {t : Nat → Nat} {m : List Nat} (h : rdT L t = .inr m) : RW L t 7 0 0 = .inr (L, m) := by
  unfold rdT at h
  cases hr : RW L t 7 0 0 with
  | inl e => rw [hr] at h; cases h
  | inr p =>
    obtain ⟨j, m'⟩ := p
    rw [hr] at h
    have h : (if j = L then Sum.inr m' else Sum.inl j : Nat ⊕ List Nat) = .inr m := h
    by_cases e : j = L
    · rw [if_pos e] at h; cases h; rw [e]
    · rw [if_neg e] at h; cases h
theorem c_write {A : Abs} (o : okA A) {σ : Dz} (c : CI A σ) {m : List Nat} (hm : rdT A.tl A.tx = .inr m) {post : Int32 → Dz → Prop} (h0 : 200 < m.length → ∀ σ', eqW σ σ' → post 0 σ') (h1 : m.length ≤ 200 → ∀ σ', eqW σ σ' → isL m σ' → post 1 σ') : P_X8_write σ 39 post := by
  unfold P_X8_write
  refine c_clear39 (A := A) fun σ1 e1 w1 => ⟨A.tl + 1, ?_⟩
  have e2 : eqW σ (sz_i (sz_i σ1 6 2 0) 6 3 0) := ((eqO.w e1 (by omega)).si (by omega) _ _).si (by omega) _ _
  refine w_all o c 6 0 (by omega) 0 (fun _ => 0) (fun _ => 0) 0 [] _ (Nat.zero_le _) e2 ⟨by rw [gi_pl (by omega), gi_same]; rfl, by omega, fun q hq => absurd hq (Nat.not_lt_zero q), fun q hq => absurd hq (Nat.not_lt_zero q), gi_same _ _ _ _, by omega, ?_⟩ A.tl m (rdT_r hm) h0 (fun hq σ' le' e' h' => w_end1 o c e' (h1 hq σ' e' h'.w))
  have w : isL [] σ1 := w1 _
  exact w.keep fun c a b j => by rw [gi_cell (by omega), gi_cell (by omega)]
end QWriter
