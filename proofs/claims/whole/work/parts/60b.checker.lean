/-! the class's checker goes as the reader does -/
section QChecker
theorem k_name {op sf : Nat} {sk : Nat → Nat} {σ : Dz} (h : CKs op sk sf σ) {c : Nat} (hc : 97 ≤ c ∧ c ≤ 101) {post : Int32 → Dz → Prop} (hp : ∀ σ', eqO 4 6 σ σ' → CKs op sk 2 σ' → post 1 σ') : P_X7_accepts σ (nI c) post := by
  unfold P_X7_accepts
  refine q_isName (by omega) (fun _ => br_f (by decide) (hp _ ((eo_r _ _ _).si (by omega) (by omega) _ _) ⟨by rw [gi_pl (by omega)]; exact h.o, h.le, fun q hq => by rw [gi_cell (by omega)]; exact h.k q hq, gi_same _ _ _ _, by omega⟩)) (fun z => absurd hc z)
theorem k_opens {op sf : Nat} {sk : Nat → Nat} {σ : Dz} (h : CKs op sk sf σ) {c : Nat} (hc : c = 40 ∨ c = 60) {post : Int32 → Dz → Prop} (h1 : op < 6 → ∀ σ', eqO 4 6 σ σ' → CKs (op + 1) (skU sk op c) 0 σ' → post 1 σ') (h0 : op = 6 → post 0 σ) : P_X7_accepts σ (nI c) post := by
  unfold P_X7_accepts
  have hb : P_X7_begins σ (nI c) (fun (r28 : Int32) (τ28 : Dz) => ((r28 = 0 ∨ r28 = 1) ∧ post r28 τ28)) := q_begins h (by omega) (fun a σ' e k => ⟨Or.inr rfl, h1 a σ' e k⟩) (fun a => ⟨Or.inl rfl, h0 a⟩)
  refine q_isName (by omega) (fun z => absurd z (by omega)) (fun _ => br_t rfl ?_)
  rcases hc with z | z
  · exact br_t (by rw [z]; rfl) hb
  · exact br_f (by rw [z]; decide) (bn_t (by rw [z]; rfl) hb)
theorem k_close {op sf : Nat} {sk : Nat → Nat} {σ : Dz} (h : CKs (op + 1) sk sf σ) (ht : sk op = 40) {post : Int32 → Dz → Prop} (hp : ∀ σ', eqO 4 6 σ σ' → CKs op sk 2 σ' → post 1 σ') : P_X7_accepts σ (nI 41) post := by
  unfold P_X7_accepts
  refine q_isName (by omega) (fun z => absurd z (by omega)) (fun _ => br_t rfl (br_f (by decide) (bn_f (by decide) (bn_t rfl (q_ends h (c := 40) (by omega) (fun p e1 e2 σ' e k => ?_) (fun z => ?_))))))
  · obtain rfl : op = p := by omega
    exact ⟨Or.inr rfl, hp σ' e k⟩
  · rcases z with z | z
    · omega
    · exact absurd ht z
theorem k_gt {op sf : Nat} {sk : Nat → Nat} {σ : Dz} (h : CKs (op + 1) sk sf σ) (ht : sk op = 44) {post : Int32 → Dz → Prop} (hp : ∀ σ', eqO 4 6 σ σ' → CKs op sk 2 σ' → post 1 σ') : P_X7_accepts σ (nI 62) post := by
  unfold P_X7_accepts
  refine q_isName (by omega) (fun z => absurd z (by omega)) (fun _ => br_t rfl (br_f (by decide) (bn_f (by decide) (bn_f (by decide) (bn_t rfl (q_ends h (c := 44) (by omega) (fun p e1 e2 σ' e k => ?_) (fun z => ?_)))))))
  · obtain rfl : op = p := by omega
    exact ⟨Or.inr rfl, hp σ' e k⟩
  · rcases z with z | z
    · omega
    · exact absurd ht z
theorem k_comma {op sf : Nat} {sk : Nat → Nat} {σ : Dz} (h : CKs (op + 1) sk sf σ) (ht : sk op = 60) {post : Int32 → Dz → Prop} (hp : ∀ σ', eqO 4 6 σ σ' → CKs (op + 1) (skU sk op 44) 0 σ' → post 1 σ') : P_X7_accepts σ (nI 44) post := by
  unfold P_X7_accepts
  have hle := h.le
  refine q_isName (by omega) (fun z => absurd z (by omega)) (fun _ => br_t rfl (br_f (by decide) (bn_f (by decide) (bn_f (by decide) (bn_f (by decide) (bn_t rfl (q_ends h (c := 60) (by omega) (fun p e1 e2 σ' e k => ?_) (fun z => ?_))))))))
  · obtain rfl : op = p := by omega
    exact br_f (by decide) (q_begins k (c := 44) (by omega) (fun _ σ2 e2 k2 => br_f (by decide) (hp σ2 (e.tr e2) k2)) (fun z => by omega))
  · rcases z with z | z
    · omega
    · exact absurd ht z
theorem k_apo {op : Nat} {sk : Nat → Nat} {σ : Dz} (h : CKs op sk 2 σ) {post : Int32 → Dz → Prop} (hp : ∀ σ', eqO 4 6 σ σ' → CKs op sk 1 σ' → post 1 σ') : P_X7_accepts σ (nI 39) post := by
  unfold P_X7_accepts
  refine q_isName (by omega) (fun z => absurd z (by omega)) (fun _ => br_t rfl (br_f (by decide) (bn_f (by decide) (bn_f (by decide) (bn_f (by decide) (bn_f (by decide) (bn_t rfl (bn_t h.s (hp _ ((eo_r _ _ _).si (by omega) (by omega) _ _) ⟨by rw [gi_pl (by omega)]; exact h.o, h.le, fun q hq => by rw [gi_cell (by omega)]; exact h.k q hq, gi_same _ _ _ _, by omega⟩)))))))))
theorem k_dig {op sf : Nat} {sk : Nat → Nat} {σ : Dz} (h : CKs op sk sf σ) (hs : sf ≠ 0) {c : Nat} (hc : 50 ≤ c ∧ c ≤ 57) {post : Int32 → Dz → Prop} (hp : ∀ σ', eqO 4 6 σ σ' → CKs op sk 0 σ' → post 1 σ') : P_X7_accepts σ (nI c) post := by
  unfold P_X7_accepts
  have hsl := h.sl
  refine q_isName (by omega) (fun z => absurd z (by omega)) (fun _ => br_t rfl (br_f (by simp (disch := omega) only [fa_lit, nI_add, pk_mul, nI_ltI, nI_leI, nI_eq] <;> omega) (bn_f (by simp (disch := omega) only [fa_lit, nI_add, pk_mul, nI_ltI, nI_leI, nI_eq] <;> omega) (bn_f (by simp (disch := omega) only [fa_lit, nI_add, pk_mul, nI_ltI, nI_leI, nI_eq] <;> omega) (bn_f (by simp (disch := omega) only [fa_lit, nI_add, pk_mul, nI_ltI, nI_leI, nI_eq] <;> omega) (bn_f (by simp (disch := omega) only [fa_lit, nI_add, pk_mul, nI_ltI, nI_leI, nI_eq] <;> omega) (bn_f (by simp (disch := omega) only [fa_lit, nI_add, pk_mul, nI_ltI, nI_leI, nI_eq] <;> omega) ?_)))))))
  rw [h.s]
  refine br_f (by rw [show (0 : Int32) = nI 0 from rfl, nI_eq (by omega) (by decide)]; exact hs) (br_f (by simp (disch := omega) only [fa_lit, nI_add, pk_mul, nI_ltI, nI_leI, nI_eq] <;> omega) (br_f (by simp (disch := omega) only [fa_lit, nI_add, pk_mul, nI_ltI, nI_leI, nI_eq] <;> omega) (hp _ ((eo_r _ _ _).si (by omega) (by omega) _ _) ⟨by rw [gi_pl (by omega)]; exact h.o, h.le, fun q hq => by rw [gi_cell (by omega)]; exact h.k q hq, gi_same _ _ _ _, by omega⟩)))
def nbC (sf c : Nat) : Prop := ¬ (c = 39 ∧ sf = 2) ∧ ¬ (sf ≠ 0 ∧ 50 ≤ c ∧ c ≤ 57)
def KE (A : Abs) (σ0 : Dz) (post : Int32 → Dz → Prop) (re : Nat → Nat → Res) (op : Nat) : Prop := ∀ i sk sf σ, i < A.tl → stC (chT A.tl A.tx i) = true → eqO 4 6 σ0 σ → CKs op sk sf σ → (∀ e, re op i = .inl e → ∀ σ', eqO 4 6 σ0 σ' → post (nI e) σ') → (∀ j m, re op i = .inr (j, m) → ∀ σ', eqO 4 6 σ0 σ' → CKs op sk 2 σ' → KK A.tl post σ' j) → KK A.tl post σ i
def KW (A : Abs) (σ0 : Dz) (post : Int32 → Dz → Prop) (rw : Nat → Nat → Res) (op : Nat) : Prop := ∀ i sk sf σ, i ≤ A.tl → eqO 4 6 σ0 σ → CKs op sk sf σ → nbC sf (chT A.tl A.tx i) → (∀ e, rw op i = .inl e → ∀ σ', eqO 4 6 σ0 σ' → post (nI e) σ') → (∀ j m, rw op i = .inr (j, m) → ∀ σ' sf', eqO 4 6 σ0 σ' → CKs op sk sf' σ' → nbC sf' (chT A.tl A.tx j) → stC (chT A.tl A.tx j) = false → KK A.tl post σ' j) → KK A.tl post σ i
theorem k_digits {A : Abs} (o : okA A) {σ0 : Dz} (c0 : CI A σ0) {post : Int32 → Dz → Prop} {op sf p : Nat} {sk : Nat → Nat} {σ : Dz} {m : List Nat} (e : eqO 4 6 σ0 σ) (h : CKs op sk sf σ) (hs : sf ≠ 0) (hn : ¬ (chT A.tl A.tx p = 39 ∧ sf = 2)) (hk : ∀ σ2 sf2, eqO 4 6 σ0 σ2 → CKs op sk sf2 σ2 → nbC sf2 (chT A.tl A.tx (rdB2 A.tl A.tx p m).1) → KK A.tl post σ2 (rdB2 A.tl A.tx p m).1) : KK A.tl post σ p := by
  unfold rdB2 at hk
  by_cases hd : 50 ≤ chT A.tl A.tx p ∧ chT A.tl A.tx p ≤ 57
  · rw [if_pos hd] at hk
    have hp := ch_lt (L := A.tl) (t := A.tx) (i := p) (by omega)
    rw [ch_in hp] at hd
    exact kk_step o c0 e hp (k_dig h hs hd fun σ' e' h' => bn_f (by decide) (hk σ' 0 (e.tr e') h' ⟨fun z => by omega, fun z => z.1 rfl⟩))
  · rw [if_neg hd] at hk
    exact hk σ sf e h ⟨hn, fun z => hd z.2⟩
theorem k_behind {A : Abs} (o : okA A) {σ0 : Dz} (c0 : CI A σ0) {post : Int32 → Dz → Prop} {op j : Nat} {sk : Nat → Nat} {σ : Dz} {m : List Nat} (e : eqO 4 6 σ0 σ) (h : CKs op sk 2 σ) (hk : ∀ σ2 sf2, eqO 4 6 σ0 σ2 → CKs op sk sf2 σ2 → nbC sf2 (chT A.tl A.tx (rdB A.tl A.tx j m).1) → KK A.tl post σ2 (rdB A.tl A.tx j m).1) : KK A.tl post σ j := by
  unfold rdB rdB1 at hk
  by_cases h39 : chT A.tl A.tx j = 39
  · rw [if_pos h39] at hk
    have hj := ch_lt (L := A.tl) (t := A.tx) (i := j) (by omega)
    rw [ch_in hj] at h39
    refine kk_step o c0 e hj ?_
    rw [h39]
    exact k_apo h fun σ' e' h' => bn_f (by decide) (k_digits o c0 (m := invL m) (e.tr e') h' (by decide) (fun z => by omega) hk)
  · rw [if_neg h39] at hk
    exact k_digits o c0 (m := m) e h (by decide) (fun z => h39 z.1) hk
theorem k_loop {A : Abs} (o : okA A) {σ0 : Dz} (c0 : CI A σ0) {post : Int32 → Dz → Prop} {re : Nat → Nat → Res} {op : Nat} (he : KE A σ0 post re op) (pg : ∀ i, i < A.tl → PR A.tl (i + 1) (re op i)) : ∀ n i sk sf σ, A.tl + 1 ≤ n + i → i ≤ A.tl → eqO 4 6 σ0 σ → CKs op sk sf σ → nbC sf (chT A.tl A.tx i) → (∀ e, rdL A.tl A.tx re op n i = .inl e → ∀ σ', eqO 4 6 σ0 σ' → post (nI e) σ') → (∀ j m, rdL A.tl A.tx re op n i = .inr (j, m) → ∀ σ' sf', eqO 4 6 σ0 σ' → CKs op sk sf' σ' → nbC sf' (chT A.tl A.tx j) → stC (chT A.tl A.tx j) = false → KK A.tl post σ' j) → KK A.tl post σ i
  | 0, i, _, _, _, hn, hi, _, _, _, _, _ => absurd hn (by omega)
  | n + 1, i, sk, sf, σ, hn, hi, e, h, hb, hf, hs => by
    cases hst : stC (chT A.tl A.tx i) with
    | false =>
      refine hs i [] ?_ σ sf e h hb hst
      unfold rdL; rw [hst]; rfl
    | true =>
      have hi2 : i < A.tl := ch_lt (t := A.tx) (by rw [stC_t] at hst; omega)
      have eq : rdL A.tl A.tx re op (n + 1) i = rdN A.tl A.tx (rdL A.tl A.tx re op n) (re op i) := by
        conv => lhs; unfold rdL
        rw [if_pos hst]
      rw [eq] at hf hs
      refine he i sk sf σ hi2 hst e h (fun e' he' => hf e' (by rw [he']; rfl)) (fun j m hj σ1 e1 h1 => ?_)
      have pj := (pg i hi2).2 j m hj
      have pb := pgB (t := A.tx) (m := m) pj.2
      rw [hj] at hf hs
      refine k_behind o c0 (m := m) e1 h1 fun σ2 sf2 e2 h2 b2 => ?_
      refine k_loop o c0 he pg n _ sk sf2 σ2 (by omega) pb.2 e2 h2 b2 (fun e' he' => hf e' ?_) (fun k m2 hk => hs k ((rdB A.tl A.tx j m).2 ++ m2) ?_)
      · show rdC _ _ = _; rw [he']; rfl
      · show rdC _ _ = _; rw [hk]; rfl
theorem rdE_name {L i op : Nat} {t : Nat → Nat} {rw : Nat → Nat → Res} (h : 97 ≤ chT L t i ∧ chT L t i ≤ 101) : rdE L t rw op i = .inr (i + 1, [2 * (chT L t i - 97)]) := if_pos h
theorem rdE_six {L i : Nat} {t : Nat → Nat} {rw : Nat → Nat → Res} (h : ¬ (97 ≤ chT L t i ∧ chT L t i ≤ 101)) : rdE L t rw 6 i = .inl i := by unfold rdE; rw [if_neg h, if_pos rfl]
theorem rdE_go {L i op : Nat} {t : Nat → Nat} {rw : Nat → Nat → Res} (h : ¬ (97 ≤ chT L t i ∧ chT L t i ≤ 101)) (h6 : op ≠ 6) : rdE L t rw op i = rdF L t rw op (chT L t i) (rw (op + 1) (i + 1)) := by unfold rdE; rw [if_neg h, if_neg h6]
theorem rdF_40 {L j op : Nat} {t : Nat → Nat} {rw : Nat → Nat → Res} {m1 : List Nat} : rdF L t rw op 40 (.inr (j, m1)) = if chT L t j = 41 then .inr (j + 1, m1) else .inl j := rfl
theorem rdF_60 {L j op : Nat} {t : Nat → Nat} {rw : Nat → Nat → Res} {m1 : List Nat} : rdF L t rw op 60 (.inr (j, m1)) = if chT L t j = 44 then rdG L t m1 (rw (op + 1) (j + 1)) else .inl j := rfl
theorem sk_top (sk : Nat → Nat) (op c : Nat) : skU sk op c op = c := if_pos rfl
theorem sk_low {sk : Nat → Nat} {op c q : Nat} (h : q < op) : skU sk op c q = sk q := if_neg (by omega)
theorem k_elem {A : Abs} (o : okA A) {σ0 : Dz} (c0 : CI A σ0) {post : Int32 → Dz → Prop} {rw : Nat → Nat → Res} {op : Nat} (hw : op < 6 → KW A σ0 post rw (op + 1)) (pg : ∀ i, i ≤ A.tl → PR A.tl i (rw (op + 1) i)) : KE A σ0 post (rdE A.tl A.tx rw) op := by
  intro i sk sf σ hi hst e h hf hs
  have hle := h.le
  by_cases hn : 97 ≤ chT A.tl A.tx i ∧ chT A.tl A.tx i ≤ 101
  · rw [rdE_name hn] at hs
    rw [ch_in hi] at hn
    exact kk_step o c0 e hi (k_name h hn fun σ' e' h' => bn_f (by decide) (hs _ _ rfl σ' (e.tr e') h'))
  · have hc : A.tx i = 40 ∨ A.tx i = 60 := by
      rw [stC_t] at hst; rw [ch_in hi] at hst hn; omega
    rcases Nat.lt_or_ge op 6 with h6 | h6
    · rw [rdE_go hn (by omega)] at hf hs
      rw [ch_in hi] at hf hs
      have hW := hw h6
      refine kk_step o c0 e hi (k_opens h hc (fun _ σ1 e1 h1 => bn_f (by decide) ?_) (fun z => by omega))
      have b0 : ∀ c, nbC 0 c := fun c => ⟨fun z => by omega, fun z => z.1 rfl⟩
      refine hW (i + 1) _ 0 σ1 hi (e.tr e1) h1 (b0 _) (fun e' he' => hf e' (by rw [he']; rfl)) (fun j m1 hj σ2 sf2 e2 h2 nb2 st2 => ?_)
      have pj := (pg (i + 1) hi).2 j m1 hj
      rw [hj] at hf hs
      rcases hc with h40 | h60
      · rw [h40, rdF_40] at hf hs
        rw [h40] at h2
        by_cases h41 : chT A.tl A.tx j = 41
        · rw [if_pos h41] at hs
          have hjl := ch_lt (L := A.tl) (t := A.tx) (i := j) (by omega)
          rw [ch_in hjl] at h41
          refine kk_step o c0 e2 hjl ?_
          rw [h41]
          exact k_close h2 (sk_top _ _ _) fun σ3 e3 h3 => bn_f (by decide) (hs _ _ rfl σ3 (e2.tr e3) (h3.cong fun q hq => sk_low hq))
        · rw [if_neg h41] at hf
          refine kk_stop o c0 e2 h2 pj.2 (by omega) ⟨st2, nb2.1, nb2.2, fun z => absurd z h41, fun z => Or.inr ?_, fun z => Or.inr ?_⟩ (hf j rfl)
          · rw [Nat.add_sub_cancel, sk_top]; decide
          · rw [Nat.add_sub_cancel, sk_top]; decide
      · rw [h60, rdF_60] at hf hs
        rw [h60] at h2
        by_cases h44 : chT A.tl A.tx j = 44
        · rw [if_pos h44] at hf hs
          have hjl := ch_lt (L := A.tl) (t := A.tx) (i := j) (by omega)
          rw [ch_in hjl] at h44
          refine kk_step o c0 e2 hjl ?_
          rw [h44]
          refine k_comma h2 (sk_top _ _ _) fun σ3 e3 h3 => bn_f (by decide) ?_
          refine hW (j + 1) _ 0 σ3 hjl (e2.tr e3) h3 (b0 _) (fun e' he' => hf e' (by rw [he']; rfl)) (fun k m2 hk σ4 sf4 e4 h4 nb4 st4 => ?_)
          have pk := (pg (j + 1) hjl).2 k m2 hk
          rw [hk] at hf hs
          by_cases h62 : chT A.tl A.tx k = 62
          · have es : rdG A.tl A.tx m1 (.inr (k, m2)) = .inr (k + 1, m1 ++ m2 ++ invL m1 ++ invL m2) := if_pos h62
            rw [es] at hs
            have hkl := ch_lt (L := A.tl) (t := A.tx) (i := k) (by omega)
            rw [ch_in hkl] at h62
            refine kk_step o c0 e4 hkl ?_
            rw [h62]
            refine k_gt h4 (sk_top _ _ _) fun σ5 e5 h5 => bn_f (by decide) (hs _ _ rfl σ5 (e4.tr e5) (h5.cong fun q hq => ?_))
            rw [sk_low hq, sk_low hq]
          · have es : rdG A.tl A.tx m1 (.inr (k, m2)) = .inl k := if_neg h62
            rw [es] at hf
            refine kk_stop o c0 e4 h4 pk.2 (by omega) ⟨st4, nb4.1, nb4.2, fun z => Or.inr ?_, fun z => absurd z h62, fun z => Or.inr ?_⟩ (hf k rfl)
            · rw [Nat.add_sub_cancel, sk_top]; decide
            · rw [Nat.add_sub_cancel, sk_top]; decide
        · rw [if_neg h44] at hf
          refine kk_stop o c0 e2 h2 pj.2 (by omega) ⟨st2, nb2.1, nb2.2, fun z => Or.inr ?_, fun z => Or.inr ?_, fun z => absurd z h44⟩ (hf j rfl)
          · rw [Nat.add_sub_cancel, sk_top]; decide
          · rw [Nat.add_sub_cancel, sk_top]; decide
    · have : op = 6 := by omega
      subst this
      rw [rdE_six hn] at hf
      exact kk_step o c0 e hi (k_opens h hc (fun z => by omega) (fun _ => bn_t rfl (hf i rfl σ e)))
theorem k_all {A : Abs} (o : okA A) {σ0 : Dz} (c0 : CI A σ0) {post : Int32 → Dz → Prop} : ∀ d op, d + 1 + op = 7 → KW A σ0 post (RW A.tl A.tx (d + 1)) op
  | 0, op, hd => fun i sk sf σ hi e h hb hf hs => k_loop o c0 (k_elem o c0 (fun z => by omega) (fun i hi => pgW A.tl A.tx 0 (op + 1) i hi)) (fun i hi => pgRE A.tl A.tx 0 op hi) 41 i sk sf σ (by have := o.tl; omega) hi e h hb hf hs
  | d + 1, op, hd => fun i sk sf σ hi e h hb hf hs => k_loop o c0 (k_elem o c0 (fun _ => k_all o c0 d (op + 1) (by omega)) (fun i hi => pgW A.tl A.tx (d + 1) (op + 1) i hi)) (fun i hi => pgRE A.tl A.tx (d + 1) op hi) 41 i sk sf σ (by have := o.tl; omega) hi e h hb hf hs
/-- what the text says: the place of an error, or the letters -/
def rdT (L : Nat) (t : Nat → Nat) : Nat ⊕ List Nat := match RW L t 7 0 0 with
  | .inl e => .inl e
  | .inr (j, m) => if j = L then .inr m else .inl j
theorem c_check {A : Abs} (o : okA A) {σ : Dz} (c : CI A σ) {post : Int32 → Dz → Prop} (h1 : ∀ e, rdT A.tl A.tx = .inl e → e ≤ 40 → ∀ σ', eqO 4 6 σ σ' → post (nI e) σ') (h2 : ∀ m, rdT A.tl A.tx = .inr m → ∀ σ', eqO 4 6 σ σ' → post (-1) σ') : P_X7_errorIn σ post := by
  have hl := o.tl
  have hp := pgW A.tl A.tx 7 0 0 (Nat.zero_le _)
  unfold rdT at h1 h2
  refine ⟨A.tl + 1, k_all o c 6 0 (by omega) 0 (fun _ => 0) 0 _ (Nat.zero_le _) (((eo_r 4 6 σ).si (k := 4) (by omega) (by omega) 1 0).si (by omega) (by omega) _ _) ⟨by rw [gi_pl (by omega), gi_same]; rfl, by omega, fun q hq => absurd hq (Nat.not_lt_zero q), gi_same _ _ _ _, by omega⟩ ⟨fun z => by omega, fun z => z.1 rfl⟩ (fun e he => ?_) (fun j m hj σ' sf' e' h' nb' st' => ?_)⟩
  · rw [he] at h1
    exact h1 e rfl (by have := hp.1 e he; omega)
  · rw [hj] at h1 h2
    have pj := hp.2 j m hj
    by_cases e : j = A.tl
    · subst e
      refine kk_end o c e' h' (fun _ => h2 m (if_pos rfl) σ' e') (fun z => absurd rfl z)
    · have hjl : j < A.tl := by omega
      have ht := o.tx j hjl
      have hn : noC 0 (fun _ => 0) sf' (chT A.tl A.tx j) := ⟨st', nb'.1, nb'.2, fun _ => Or.inl rfl, fun _ => Or.inl rfl, fun _ => Or.inl rfl⟩
      rw [ch_in hjl] at hn
      exact kk_step o c e' hjl (k_rej h' (by omega) hn fun σ2 e2 => bn_t rfl (h1 j (if_neg e) (by omega) σ2 (e'.tr e2)))
end QChecker
