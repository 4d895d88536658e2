/-! the model reads as the reader does -/
section QModelReader
/-- is a name that is undefined among the first i characters? -/
def lkN (df : Nat → Bool) (t : Nat → Nat) : Nat → Bool
  | 0 => false
  | i + 1 => lkN df t i || (decide (97 ≤ t i ∧ t i ≤ 101) && !df (t i - 97))
theorem lk_no {df : Nat → Bool} {t : Nat → Nat} {i : Nat} (h : ¬ (97 ≤ t i ∧ t i ≤ 101)) : lkN df t (i + 1) = lkN df t i := by
  show (lkN df t i || (decide (97 ≤ t i ∧ t i ≤ 101) && !df (t i - 97))) = _
  rw [decide_eq_false h, Bool.false_and, Bool.or_false]
theorem lk_yes {df : Nat → Bool} {t : Nat → Nat} {i : Nat} (h : 97 ≤ t i ∧ t i ≤ 101) : lkN df t (i + 1) = (lkN df t i || !df (t i - 97)) := by
  show (lkN df t i || (decide (97 ≤ t i ∧ t i ≤ 101) && !df (t i - 97))) = _
  rw [decide_eq_true h, Bool.true_and]
def MSt (A : Abs) (i : Nat) (op : Nat) (l : List Nat) (σ : Dz) : Prop := (gz_i σ 43 18 = nI i) ∧ (gz_i σ 43 25 = nI op) ∧ (gz_i σ 43 24 = if lkN A.S.df A.tx i then 1 else 0) ∧ (MM l σ)
theorem MSt.at_ {A : Abs} {i : Nat} {op : Nat} {l : List Nat} {σ : Dz} (h : MSt A i op l σ) : gz_i σ 43 18 = nI i := h.1
theorem MSt.op {A : Abs} {i : Nat} {op : Nat} {l : List Nat} {σ : Dz} (h : MSt A i op l σ) : gz_i σ 43 25 = nI op := h.2.1
theorem MSt.lk {A : Abs} {i : Nat} {op : Nat} {l : List Nat} {σ : Dz} (h : MSt A i op l σ) : gz_i σ 43 24 = if lkN A.S.df A.tx i then 1 else 0 := h.2.2.1
theorem MSt.mm {A : Abs} {i : Nat} {op : Nat} {l : List Nat} {σ : Dz} (h : MSt A i op l σ) : MM l σ := h.2.2.2
theorem m_here {A : Abs} (o : okA A) {σ0 σ : Dz} (m0 : MI A σ0) (e : eqS 57 61 σ0 σ) {i : Nat} (hi : i ≤ A.tl) (ha : gz_i σ 43 18 = nI i) {post : Int32 → Prop} (hp : post (nI (chT A.tl A.tx i))) : P_X10_here σ post := by
  have t1 : gz_i σ 43 8 = nI A.tl := by rw [e.m (by omega)]; exact m0.tl
  rcases Nat.lt_or_ge i A.tl with h | h
  · rw [ch_in h] at hp
    exact m_here_in o t1 (fun q hq => by rw [e.i (by omega)]; exact m0.tx q hq) ha h hp
  · rw [ch_out h] at hp
    exact m_here_end o t1 (by rw [ha]; exact nI_c (by omega)) hp
theorem q_in {c lo hi : Nat} (hc : c < 2 ^ 31) (hl : lo < 2 ^ 31) (hh : hi < 2 ^ 31) {post : Int32 → Prop} (h1 : lo ≤ c ∧ c ≤ hi → post 1) (h0 : ¬ (lo ≤ c ∧ c ≤ hi) → post 0) : P_X10_in (nI c) (nI lo) (nI hi) post := by
  by_cases h : lo ≤ c ∧ c ≤ hi
  · exact in_yes h.1 h.2 hh (h1 h)
  · refine in_no ?_ (h0 h)
    rw [nI_ltI hc hl, nI_ltI hh hc]; omega
theorem ch_small {A : Abs} (o : okA A) (i : Nat) : chT A.tl A.tx i < 128 := by
  unfold chT
  split
  · rename_i h; have := o.tx i h; omega
  · omega
theorem MSt.come {A : Abs} {i op : Nat} {l l' : List Nat} {σ σ' : Dz} (h : MSt A i op l σ) (e : eqC σ σ') (w : MM l' σ') : MSt A i op l' σ' := ⟨by rw [e.m (by omega)]; exact h.at_, by rw [e.m (by omega)]; exact h.op, by rw [e.m (by omega)]; exact h.lk, w⟩
theorem MSt.adv {A : Abs} {i op : Nat} {l : List Nat} {σ : Dz} (h : MSt A i op l σ) (hn : ¬ (97 ≤ A.tx i ∧ A.tx i ≤ 101)) : MSt A (i + 1) op l (sz_i σ 43 18 (nI (i + 1))) := ⟨gi_same _ _ _ _, by rw [gi_pl (by omega)]; exact h.op, by rw [gi_pl (by omega), lk_no hn]; exact h.lk, h.mm.keep (fun j => gi_cell (by omega)) (gi_pl (by omega)) (gi_pl (by omega))⟩
theorem eqC.t {σ σ' : Dz} (h : eqC σ σ') : eqS 57 61 σ σ' := h.s.mono (by omega) (by omega)
theorem m_dig {A : Abs} (o : okA A) {σ0 : Dz} (m0 : MI A σ0) {p op : Nat} {u m : List Nat} {σ : Dz} (e : eqS 57 61 σ0 σ) (hp : p ≤ A.tl) (h : MSt A p op (u ++ m) σ) {post : Dz → Prop} (hs : ∀ σ', eqS 57 61 σ0 σ' → MSt A (rdB2 A.tl A.tx p m).1 op (u ++ (rdB2 A.tl A.tx p m).2) σ' → post σ') : B_X10_readsBehind_24 post σ (nI (min 200 u.length)) := by
  unfold B_X10_readsBehind_24
  have hc := ch_small o p
  unfold rdB2 at hs
  refine m_here o m0 e hp h.at_ (q_in (lo := 50) (hi := 57) (by omega) (by decide) (by decide) (fun hd => br_f (by decide) ?_) (fun hd => br_t rfl ?_))
  · rw [if_pos hd] at hs
    have hpl := ch_lt (L := A.tl) (t := A.tx) (i := p) (by omega)
    rw [h.mm.out]
    have el : (u ++ m).length = u.length + m.length := List.length_append
    generalize hC : chT A.tl A.tx p = c at *
    have key : ∀ k q τ, q + k = c - 48 → 1 ≤ q → eqS 57 61 σ0 τ → MSt A p op (u ++ repL m q) τ → L_X10_readsBehind_45 post (k + 1) τ (nI (min 200 u.length)) (nI (min 200 (u ++ m).length)) (nI q) := by
      intro k
      induction k with
      | zero =>
        intro q τ hq h1 e' h'
        show B_X10_readsBehind_45 _ _ _ _ _ _
        unfold B_X10_readsBehind_45
        refine m_here o m0 e' hp h'.at_ ?_
        rw [hC, show nI c - 48 = nI (c - 48) from pk_sub (b := 48) (by omega), h'.at_, nI_1]
        have hq2 : q = c - 48 := by omega
        subst hq2
        have hnn : ¬ (97 ≤ A.tx p ∧ A.tx p ≤ 101) := by rw [ch_in hpl] at hC; omega
        exact br_t (Int32.le_refl _) (hs _ (e'.s43 (by unfold scr; omega) _) (h'.adv hnn))
      | succ k ih =>
        intro q τ hq h1 e' h'
        show B_X10_readsBehind_45 _ _ _ _ _ _
        unfold B_X10_readsBehind_45
        refine m_here o m0 e' hp h'.at_ ?_
        rw [hC, show nI c - 48 = nI (c - 48) from pk_sub (b := 48) (by omega)]
        obtain ⟨r, rfl⟩ : ∃ r, q = r + 1 := ⟨q - 1, by omega⟩
        have ew : u ++ repL m (r + 1) = u ++ m ++ repL m r := by rw [List.append_assoc]; rfl
        have ew2 : u ++ m ++ repL m r ++ m = u ++ repL m (r + 1 + 1) := by rw [← ew, List.append_assoc, ← rep_app]
        have hm := h'.mm
        rw [ew] at hm
        have el3 : (u ++ m ++ repL m r).length = u.length + m.length + (repL m r).length := by rw [List.length_append, List.length_append]
        refine br_f (by simp (disch := omega) only [fa_lit, nI_add, pk_mul, nI_ltI, nI_leI, nI_eq] <;> omega) (mm_copy hm (by omega) (by omega) (fun hl => ⟨by omega, by omega⟩) fun σ' e2 w2 => ?_)
        rw [ew2] at w2
        rw [nI_1]
        exact ih (r + 1 + 1) σ' (by omega) (by omega) (e'.tr e2.t) (h'.come e2 w2)
    refine ⟨c - 48 - 1 + 1, key (c - 48 - 1) 1 σ (by omega) (by omega) e ?_⟩
    show MSt A p op (u ++ (m ++ [])) σ
    rw [List.append_nil]; exact h
  · rw [if_neg hd] at hs
    exact hs σ e h
theorem m_behind {A : Abs} (o : okA A) {σ0 : Dz} (m0 : MI A σ0) {j op : Nat} {u m : List Nat} {σ : Dz} (e : eqS 57 61 σ0 σ) (hj : j ≤ A.tl) (h : MSt A j op (u ++ m) σ) {post : Dz → Prop} (hs : ∀ σ', eqS 57 61 σ0 σ' → MSt A (rdB A.tl A.tx j m).1 op (u ++ (rdB A.tl A.tx j m).2) σ' → post σ') : P_X10_readsBehind σ (nI (min 200 u.length)) post := by
  unfold P_X10_readsBehind
  have hc := ch_small o j
  unfold rdB rdB1 at hs
  refine m_here o m0 e hj h.at_ ?_
  by_cases h39 : chT A.tl A.tx j = 39
  · rw [if_pos h39] at hs
    have hjl := ch_lt (L := A.tl) (t := A.tx) (i := j) (by omega)
    refine bn_t (by rw [h39]; rfl) (mm_turns h.mm fun σ1 e1 w1 => ?_)
    have h1 := h.come e1 w1
    rw [h1.at_, nI_1]
    have hnn : ¬ (97 ≤ A.tx j ∧ A.tx j ≤ 101) := by rw [ch_in hjl] at h39; omega
    exact m_dig o m0 ((e.tr e1.t).s43 (by unfold scr; omega) _) hjl (h1.adv hnn) hs
  · rw [if_neg h39] at hs
    exact bn_f (by simp (disch := omega) only [fa_lit, nI_add, pk_mul, nI_ltI, nI_leI, nI_eq] <;> omega) (m_dig o m0 e hj h hs)
def ME (A : Abs) (σ0 : Dz) (X : Dz → (Int32 → Dz → Prop) → Prop) (re : Nat → Nat → Res) (op : Nat) : Prop := ∀ i l σ post, i < A.tl → stC (chT A.tl A.tx i) = true → eqS 57 61 σ0 σ → MSt A i op l σ → (∀ e, re op i = .inl e → ∀ σ', eqS 57 61 σ0 σ' → gz_i σ' 43 18 = nI e → post 0 σ') → (∀ j m, re op i = .inr (j, m) → ∀ σ', eqS 57 61 σ0 σ' → MSt A j op (l ++ m) σ' → post 1 σ') → X σ post
def MW (A : Abs) (σ0 : Dz) (X : Dz → (Int32 → Dz → Prop) → Prop) (rw : Nat → Nat → Res) (op : Nat) : Prop := ∀ i l σ post, i ≤ A.tl → eqS 57 61 σ0 σ → MSt A i op l σ → (∀ e, rw op i = .inl e → ∀ σ', eqS 57 61 σ0 σ' → gz_i σ' 43 18 = nI e → post 0 σ') → (∀ j m, rw op i = .inr (j, m) → ∀ σ', eqS 57 61 σ0 σ' → MSt A j op (l ++ m) σ' → post 1 σ') → X σ post
theorem m_loop {A : Abs} (o : okA A) {σ0 : Dz} (m0 : MI A σ0) {X : Dz → (Int32 → Dz → Prop) → Prop} {re : Nat → Nat → Res} {op : Nat} (he : ME A σ0 X re op) (pg : ∀ i, i < A.tl → PR A.tl (i + 1) (re op i)) : ∀ n i l σ post, A.tl + 1 ≤ n + i → i ≤ A.tl → eqS 57 61 σ0 σ → MSt A i op l σ → (∀ e, rdL A.tl A.tx re op n i = .inl e → ∀ σ', eqS 57 61 σ0 σ' → gz_i σ' 43 18 = nI e → post 0 σ') → (∀ j m, rdL A.tl A.tx re op n i = .inr (j, m) → ∀ σ', eqS 57 61 σ0 σ' → MSt A j op (l ++ m) σ' → post 1 σ') → L_X10_readsWord_0 X post n σ
  | 0, i, _, _, _, hn, hi, _, _, _, _ => absurd hn (by omega)
  | n + 1, i, l, σ, post, hn, hi, e, h, hf, hs => by
    show B_X10_readsWord_0 _ _ _ _
    unfold B_X10_readsWord_0
    have hc := ch_small o i
    have go : stC (chT A.tl A.tx i) = true → B_X10_readsWord_32 X post (L_X10_readsWord_0 X post n) σ := fun hst => by
      unfold B_X10_readsWord_32
      have hi2 : i < A.tl := ch_lt (t := A.tx) (by rw [stC_t] at hst; omega)
      have eq : rdL A.tl A.tx re op (n + 1) i = rdN A.tl A.tx (rdL A.tl A.tx re op n) (re op i) := by
        conv => lhs; unfold rdL
        rw [if_pos hst]
      rw [eq] at hf hs
      refine he i l σ _ hi2 hst e h (fun e' he' σ' e2 a2 => bn_t rfl (hf e' (by rw [he']; rfl) σ' e2 a2)) (fun j m hj σ1 e1 h1 => bn_f (by decide) ?_)
      have pj := (pg i hi2).2 j m hj
      have pb := pgB (t := A.tx) (m := m) pj.2
      rw [hj] at hf hs
      rw [h.mm.out]
      refine m_behind o m0 e1 pj.2 h1 fun σ2 e2 h2 => ?_
      refine m_loop o m0 he pg n _ _ σ2 post (by omega) pb.2 e2 h2 (fun e' he' => hf e' ?_) (fun k m2 hk σ3 e3 h3 => hs k ((rdB A.tl A.tx j m).2 ++ m2) ?_ σ3 e3 (by rw [← List.append_assoc]; exact h3))
      · show rdC _ _ = _; rw [he']; rfl
      · show rdC _ _ = _; rw [hk]; rfl
    refine m_here o m0 e hi h.at_ (q_in (lo := 97) (hi := 101) (by omega) (by decide) (by decide) (fun hd => bn_f (by decide) (go (stC_t.mpr (Or.inl hd)))) (fun hd => bn_t rfl (m_here o m0 e hi h.at_ ?_)))
    by_cases h40 : chT A.tl A.tx i = 40
    · exact br_t (by rw [h40]; rfl) (go (stC_t.mpr (Or.inr (Or.inl h40))))
    · refine br_f (by simp (disch := omega) only [fa_lit, nI_add, pk_mul, nI_ltI, nI_leI, nI_eq] <;> omega) (m_here o m0 e hi h.at_ ?_)
      by_cases h60 : chT A.tl A.tx i = 60
      · exact bn_t (by rw [h60]; rfl) (go (stC_t.mpr (Or.inr (Or.inr h60))))
      · refine bn_f (by simp (disch := omega) only [fa_lit, nI_add, pk_mul, nI_ltI, nI_leI, nI_eq] <;> omega) (hs i [] ?_ σ e (by rw [List.append_nil]; exact h))
        unfold rdL
        rw [show stC (chT A.tl A.tx i) = false from stC_f.mpr ⟨hd, h40, h60⟩]; rfl
theorem m_elem {A : Abs} (o : okA A) {σ0 : Dz} (m0 : MI A σ0) {X : Dz → (Int32 → Dz → Prop) → Prop} {rw : Nat → Nat → Res} {op : Nat} (hle : op ≤ 6) (hw : op < 6 → MW A σ0 X rw (op + 1)) (pg : ∀ i, i ≤ A.tl → PR A.tl i (rw (op + 1) i)) : ME A σ0 (Q_X10_readsElement X) (rdE A.tl A.tx rw) op := by
  intro i l σ post hi hst e h hf hs
  unfold Q_X10_readsElement
  have hc := ch_small o i
  refine m_here o m0 e (by omega) h.at_ (q_in (lo := 97) (hi := 101) (by omega) (by decide) (by decide) (fun hd => br_f (by decide) ?_) (fun hd => br_t rfl ?_))
  · rw [rdE_name hd] at hs
    rw [ch_in hi] at hd hs ⊢
    have fin : ∀ z : Bool, z = lkN A.S.df A.tx (i + 1) → B_X10_readsElement_46 X post σ (nI (A.tx i)) (if z then 1 else 0) := fun z hz => by
      unfold B_X10_readsElement_46
      refine ⟨by cases z; exact Or.inl rfl; exact Or.inr rfl, ?_⟩
      have h1 : MM l (sz_i σ 43 24 (if z then 1 else 0)) := h.mm.keep (fun j => gi_cell (by omega)) (gi_pl (by omega)) (gi_pl (by omega))
      refine mm_come (v := 2 * (A.tx i - 97)) h1 (fun _ => by rw [show nI (A.tx i) - 97 = nI (A.tx i - 97) from pk_sub (b := 97) (by omega), show (2 : Int32) = nI 2 from rfl, pk_mul]) fun σ' e' w' => ?_
      have a' : gz_i σ' 43 18 = nI i := by rw [e'.m (by omega), gi_pl (by omega)]; exact h.at_
      rw [a', nI_1]
      refine hs _ _ rfl _ (((e.s43 (by unfold scr; omega) _).tr e'.t).s43 (by unfold scr; omega) _) ⟨gi_same _ _ _ _, by rw [gi_pl (by omega), e'.m (by omega), gi_pl (by omega)]; exact h.op, ?_, w'.keep (fun j => gi_cell (by omega)) (gi_pl (by omega)) (gi_pl (by omega))⟩
      rw [gi_pl (by omega), e'.m (by omega), gi_same, hz]
    have m1 := m0.made e
    have hlk := lk_yes (df := A.S.df) (t := A.tx) (i := i) hd
    rw [h.lk]
    cases hk : lkN A.S.df A.tx i with
    | true =>
      refine bn_f (by decide) ?_
      exact fin true (by rw [hlk, hk, Bool.true_or])
    | false =>
      refine bn_t rfl ?_
      rw [show nI (A.tx i) - 97 = nI (A.tx i - 97) from pk_sub (b := 97) (by omega), nI_clamp (by omega)]
      refine ⟨vp_in_nI (by omega) (by omega), ?_⟩
      rw [show gz_i σ 45 (A.tx i - 97) = if A.S.df (A.tx i - 97) then 1 else 0 from m1.S.df _ (by omega)]
      cases hdf : A.S.df (A.tx i - 97) with
      | true => exact bn_f (by decide) (fin false (by rw [hlk, hk, hdf]; rfl))
      | false => exact bn_t rfl (fin true (by rw [hlk, hk, hdf]; rfl))
  · have hci : A.tx i = 40 ∨ A.tx i = 60 := by
      rw [stC_t] at hst; rw [ch_in hi] at hst hd; omega
    rw [h.mm.out]
    have main : B_X10_readsElement_83 X post σ (nI (chT A.tl A.tx i)) (nI (min 200 l.length)) := by
      unfold B_X10_readsElement_83
      rw [h.op, ch_in hi]
      have hnn : ¬ (97 ≤ A.tx i ∧ A.tx i ≤ 101) := by omega
      rcases Nat.lt_or_ge op 6 with h6 | h6
      · rw [rdE_go hd (by omega), ch_in hi] at hf hs
        have hW := hw h6
        refine bn_f (by simp (disch := omega) only [fa_lit, nI_add, pk_mul, nI_ltI, nI_leI, nI_eq] <;> omega) ?_
        rw [nI_1, gi_pl (by omega), h.at_, nI_1]
        have h1 : MSt A (i + 1) (op + 1) l (sz_i (sz_i σ 43 25 (nI (op + 1))) 43 18 (nI (i + 1))) := ⟨gi_same _ _ _ _, by rw [gi_pl (by omega), gi_same], by rw [gi_pl (by omega), gi_pl (by omega), lk_no hnn]; exact h.lk, h.mm.keep (fun j => by rw [gi_cell (by omega), gi_cell (by omega)]) (by rw [gi_pl (by omega), gi_pl (by omega)]) (by rw [gi_pl (by omega), gi_pl (by omega)])⟩
        have e1 : eqS 57 61 σ0 (sz_i (sz_i σ 43 25 (nI (op + 1))) 43 18 (nI (i + 1))) := (e.s43 (by unfold scr; omega) _).s43 (by unfold scr; omega) _
        have downs : ∀ k (L' : List Nat) τ, chT A.tl A.tx k ≠ 0 → ¬ (97 ≤ A.tx k ∧ A.tx k ≤ 101) → eqS 57 61 σ0 τ → MSt A k (op + 1) L' τ → eqS 57 61 σ0 (sz_i (sz_i τ 43 18 (nI (k + 1))) 43 25 (nI op)) ∧ MSt A (k + 1) op L' (sz_i (sz_i τ 43 18 (nI (k + 1))) 43 25 (nI op)) := fun k L' τ h0 hn e' h' => ⟨(e'.s43 (by unfold scr; omega) _).s43 (by unfold scr; omega) _, by rw [gi_pl (by omega), gi_same], gi_same _ _ _ _, by rw [gi_pl (by omega), gi_pl (by omega), lk_no hn]; exact h'.lk, h'.mm.keep (fun j => by rw [gi_cell (by omega), gi_cell (by omega)]) (by rw [gi_pl (by omega), gi_pl (by omega)]) (by rw [gi_pl (by omega), gi_pl (by omega)])⟩
        refine hW (i + 1) l _ _ hi e1 h1 (fun e' he' σ' e2 a2 => bn_t rfl (hf e' (by rw [he']; rfl) σ' e2 a2)) (fun j m1 hj σ2 e2 h2 => bn_f (by decide) ?_)
        have pj := (pg (i + 1) hi).2 j m1 hj
        have hcj := ch_small o j
        rw [hj] at hf hs
        rcases hci with h40 | h60
        · rw [h40, rdF_40] at hf hs
          rw [h40]
          refine bn_f (by decide) ?_
          unfold B_X10_readsElement_164 B_X10_readsElement_181
          refine m_here o m0 e2 pj.2 h2.at_ (bn_t rfl ?_)
          by_cases h41 : chT A.tl A.tx j = 41
          · rw [if_pos h41] at hs
            have hjl := ch_lt (L := A.tl) (t := A.tx) (i := j) (by omega)
            refine br_t (by rw [h41]; rfl) (bn_f (by decide) ?_)
            rw [h2.at_, nI_1, gi_pl (by omega), h2.op, pm_s]
            obtain ⟨d1, d2⟩ := downs j _ σ2 (by omega) (by rw [ch_in hjl] at h41; omega) e2 h2
            exact hs _ _ rfl _ d1 d2
          · rw [if_neg h41] at hf
            exact br_f (by simp (disch := omega) only [fa_lit, nI_add, pk_mul, nI_ltI, nI_leI, nI_eq] <;> omega) (hf j rfl σ2 e2 h2.at_)
        · rw [h60, rdF_60] at hf hs
          rw [h60]
          refine bn_t rfl (m_here o m0 e2 pj.2 h2.at_ ?_)
          by_cases h44 : chT A.tl A.tx j = 44
          · rw [if_pos h44] at hf hs
            have hjl := ch_lt (L := A.tl) (t := A.tx) (i := j) (by omega)
            refine br_t (by rw [h44]; rfl) ?_
            rw [h2.at_, nI_1, h2.mm.out]
            refine hW (j + 1) (l ++ m1) _ _ hjl (e2.s43 (by unfold scr; omega) _) (h2.adv (by rw [ch_in hjl] at h44; omega)) (fun e' he' σ' e3 a3 => bn_t rfl (hf e' (by rw [he']; rfl) σ' e3 a3)) (fun k m2 hk σ3 e3 h3 => bn_f (by decide) ?_)
            have pk := (pg (j + 1) hjl).2 k m2 hk
            have hck := ch_small o k
            rw [hk] at hf hs
            unfold B_X10_readsElement_164 B_X10_readsElement_181
            refine m_here o m0 e3 pk.2 h3.at_ (bn_f (by decide) ?_)
            by_cases h62 : chT A.tl A.tx k = 62
            · have es : rdG A.tl A.tx m1 (.inr (k, m2)) = .inr (k + 1, m1 ++ m2 ++ invL m1 ++ invL m2) := if_pos h62
              rw [es] at hs
              have hkl := ch_lt (L := A.tl) (t := A.tx) (i := k) (by omega)
              refine br_t (by rw [h62]; rfl) (bn_t rfl ?_)
              rw [h3.at_, nI_1, gi_pl (by omega), h3.op, pm_s]
              obtain ⟨d1, d2⟩ := downs k _ σ3 (by omega) (by rw [ch_in hkl] at h62; omega) e3 h3
              generalize sz_i (sz_i σ3 43 18 (nI (k + 1))) 43 25 (nI op) = τ at d1 d2 ⊢
              have l1 : (l ++ m1).length = l.length + m1.length := List.length_append
              have l2 : (l ++ m1 ++ m2).length = (l ++ m1).length + m2.length := List.length_append
              have l3 : (l ++ m1 ++ m2 ++ invL m1).length = (l ++ m1 ++ m2).length + m1.length := by rw [List.length_append, inv_len]
              refine mm_back (u := l) (m := m1) (r := m2) d2.mm (by omega) (by omega) (fun hl => ⟨by omega, by omega⟩) fun σ4 e4 w4 => ?_
              rw [d2.mm.out]
              refine mm_back (u := l ++ m1) (m := m2) (r := invL m1) w4 (by omega) (by omega) (fun hl => ⟨by omega, by omega⟩) fun σ5 e5 w5 => ?_
              refine hs _ _ rfl σ5 (d1.tr (e4.tr e5).t) ?_
              have eL : l ++ (m1 ++ m2 ++ invL m1 ++ invL m2) = l ++ m1 ++ m2 ++ invL m1 ++ invL m2 := by rw [← List.append_assoc, ← List.append_assoc, ← List.append_assoc]
              rw [eL]
              exact d2.come (e4.tr e5) w5
            · have es : rdG A.tl A.tx m1 (.inr (k, m2)) = .inl k := if_neg h62
              rw [es] at hf
              exact br_f (by simp (disch := omega) only [fa_lit, nI_add, pk_mul, nI_ltI, nI_leI, nI_eq] <;> omega) (hf k rfl σ3 e3 h3.at_)
          · rw [if_neg h44] at hf
            exact br_f (by simp (disch := omega) only [fa_lit, nI_add, pk_mul, nI_ltI, nI_leI, nI_eq] <;> omega) (hf j rfl σ2 e2 h2.at_)
      · have : op = 6 := by omega
        subst this
        rw [rdE_six hd] at hf
        exact bn_t rfl (hf i rfl σ e h.at_)
    by_cases h40 : chT A.tl A.tx i = 40
    · exact br_t (by rw [h40]; rfl) main
    · refine br_f (by simp (disch := omega) only [fa_lit, nI_add, pk_mul, nI_ltI, nI_leI, nI_eq] <;> omega) (bn_t ?_ main)
      rw [ch_in hi] at h40 ⊢
      rw [hci.resolve_left h40]; rfl
theorem m_all {A : Abs} (o : okA A) {σ0 : Dz} (m0 : MI A σ0) : ∀ d op, d + 1 + op = 7 → MW A σ0 (X10W (d + 1)) (RW A.tl A.tx (d + 1)) op
  | 0, op, hd => fun i l σ post hi e h hf hs => ⟨41, m_loop o m0 (m_elem o m0 (by omega) (fun z => by omega) (fun i hi => pgW A.tl A.tx 0 (op + 1) i hi)) (fun i hi => pgRE A.tl A.tx 0 op hi) 41 i l σ post (by have := o.tl; omega) hi e h hf hs⟩
  | d + 1, op, hd => fun i l σ post hi e h hf hs => ⟨41, m_loop o m0 (m_elem o m0 (by omega) (fun _ => m_all o m0 d (op + 1) (by omega)) (fun i hi => pgW A.tl A.tx (d + 1) (op + 1) i hi)) (fun i hi => pgRE A.tl A.tx (d + 1) op hi) 41 i l σ post (by have := o.tl; omega) hi e h hf hs⟩
end QModelReader
