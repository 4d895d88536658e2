/-! words in texts: the reader in the abstract -/
section QReader
def chT (L : Nat) (t : Nat → Nat) (i : Nat) : Nat := if i < L then t i else 0
theorem ch_in {L i : Nat} {t : Nat → Nat} (h : i < L) : chT L t i = t i := if_pos h
theorem ch_out {L i : Nat} {t : Nat → Nat} (h : L ≤ i) : chT L t i = 0 := if_neg (by omega)
theorem ch_lt {L i : Nat} {t : Nat → Nat} (h : chT L t i ≠ 0) : i < L := by
  rcases Nat.lt_or_ge i L with z | z
  · exact z
  · exact absurd (ch_out z) h
/-- a character with which an element starts -/
def stC (c : Nat) : Bool := (decide (97 ≤ c) && decide (c ≤ 101)) || (c == 40 || c == 60)
theorem stC_t {c : Nat} : stC c = true ↔ (97 ≤ c ∧ c ≤ 101) ∨ c = 40 ∨ c = 60 := by simp [stC]
theorem stC_f {c : Nat} : stC c = false ↔ ¬ (97 ≤ c ∧ c ≤ 101) ∧ c ≠ 40 ∧ c ≠ 60 := by
  rw [← Bool.not_eq_true, stC_t]; omega
def invL (m : List Nat) : List Nat := (m.map (fun x => x ^^^ 1)).reverse
def repL (m : List Nat) : Nat → List Nat
  | 0 => []
  | k + 1 => m ++ repL m k
abbrev Res : Type := Nat ⊕ (Nat × List Nat)
def rdB1 (L : Nat) (t : Nat → Nat) (i : Nat) (m : List Nat) : Nat × List Nat := if chT L t i = 39 then (i + 1, invL m) else (i, m)
def rdB2 (L : Nat) (t : Nat → Nat) (i : Nat) (m : List Nat) : Nat × List Nat := if 50 ≤ chT L t i ∧ chT L t i ≤ 57 then (i + 1, repL m (chT L t i - 48)) else (i, m)
def rdB (L : Nat) (t : Nat → Nat) (i : Nat) (m : List Nat) : Nat × List Nat := rdB2 L t (rdB1 L t i m).1 (rdB1 L t i m).2
def rdG (L : Nat) (t : Nat → Nat) (m1 : List Nat) : Res → Res
  | .inl e => .inl e
  | .inr (k, m2) => if chT L t k = 62 then .inr (k + 1, m1 ++ m2 ++ invL m1 ++ invL m2) else .inl k
def rdF (L : Nat) (t : Nat → Nat) (rw : Nat → Nat → Res) (op c : Nat) : Res → Res
  | .inl e => .inl e
  | .inr (j, m1) => if c = 60 then (if chT L t j = 44 then rdG L t m1 (rw (op + 1) (j + 1)) else .inl j) else if chT L t j = 41 then .inr (j + 1, m1) else .inl j
def rdE (L : Nat) (t : Nat → Nat) (rw : Nat → Nat → Res) (op i : Nat) : Res :=
  if 97 ≤ chT L t i ∧ chT L t i ≤ 101 then .inr (i + 1, [2 * (chT L t i - 97)])
  else if op = 6 then .inl i else rdF L t rw op (chT L t i) (rw (op + 1) (i + 1))
def rdC (m : List Nat) : Res → Res
  | .inl e => .inl e
  | .inr (k, m2) => .inr (k, m ++ m2)
def rdN (L : Nat) (t : Nat → Nat) (go : Nat → Res) : Res → Res
  | .inl e => .inl e
  | .inr (j, m) => rdC (rdB L t j m).2 (go (rdB L t j m).1)
def rdL (L : Nat) (t : Nat → Nat) (re : Nat → Nat → Res) (op : Nat) : Nat → Nat → Res
  | 0, i => .inl i
  | n + 1, i => if stC (chT L t i) then rdN L t (rdL L t re op n) (re op i) else .inr (i, [])
def RW (L : Nat) (t : Nat → Nat) : Nat → Nat → Nat → Res
  | 0 => fun _ i => .inl i
  | d + 1 => fun op i => rdL L t (rdE L t (RW L t d)) op 41 i
theorem pgB {L : Nat} {t : Nat → Nat} {i : Nat} {m : List Nat} (h : i ≤ L) : i ≤ (rdB L t i m).1 ∧ (rdB L t i m).1 ≤ L := by
  have h1 : i ≤ (rdB1 L t i m).1 ∧ (rdB1 L t i m).1 ≤ L := by
    unfold rdB1
    split
    · rename_i z; have := ch_lt (L := L) (t := t) (i := i) (by omega); exact ⟨Nat.le_succ _, this⟩
    · exact ⟨Nat.le_refl _, h⟩
  unfold rdB rdB2
  split
  · rename_i z; have := ch_lt (L := L) (t := t) (i := (rdB1 L t i m).1) (by omega); exact ⟨by show i ≤ _ + 1; omega, this⟩
  · exact h1
def PR (L i : Nat) (r : Res) : Prop := (∀ e, r = .inl e → e ≤ L) ∧ ∀ j m, r = .inr (j, m) → i ≤ j ∧ j ≤ L
theorem PR.mono {L i i' : Nat} {r : Res} (h : PR L i' r) (hi : i ≤ i') : PR L i r := ⟨h.1, fun j m e => ⟨by have := h.2 j m e; omega, (h.2 j m e).2⟩⟩
theorem pr_l {L i e : Nat} (h : e ≤ L) : PR L i (.inl e) := ⟨fun e' z => by cases z; exact h, fun j m z => by cases z⟩
theorem pr_r {L i j : Nat} {m : List Nat} (h : i ≤ j) (h2 : j ≤ L) : PR L i (.inr (j, m)) := ⟨fun e' z => (by cases z), fun j' m' z => by cases z; exact ⟨h, h2⟩⟩
theorem pgE {L : Nat} {t : Nat → Nat} {rw : Nat → Nat → Res} (hw : ∀ op i, i ≤ L → PR L i (rw op i)) (op : Nat) {i : Nat} (hi : i < L) : PR L (i + 1) (rdE L t rw op i) := by
  unfold rdE
  split
  · exact pr_r (Nat.le_refl _) hi
  · split
    · exact pr_l (by omega)
    · have h1 := hw (op + 1) (i + 1) hi
      cases hr : rw (op + 1) (i + 1) with
      | inl e => rw [hr] at h1; exact pr_l (h1.1 e rfl)
      | inr p =>
        obtain ⟨j, m1⟩ := p
        rw [hr] at h1
        have hj := h1.2 j m1 rfl
        show PR L (i + 1) (if _ then _ else _)
        split
        · split
          · rename_i z
            have hj2 := ch_lt (L := L) (t := t) (i := j) (by omega)
            have h2 := hw (op + 1) (j + 1) hj2
            cases hr2 : rw (op + 1) (j + 1) with
            | inl e => rw [hr2] at h2; exact pr_l (h2.1 e rfl)
            | inr q =>
              obtain ⟨k, m2⟩ := q
              rw [hr2] at h2
              have hk := h2.2 k m2 rfl
              show PR L (i + 1) (if _ then _ else _)
              split
              · rename_i z2; have := ch_lt (L := L) (t := t) (i := k) (by omega); exact pr_r (by omega) this
              · exact pr_l hk.2
          · exact pr_l hj.2
        · split
          · rename_i z; have := ch_lt (L := L) (t := t) (i := j) (by omega); exact pr_r (by omega) this
          · exact pr_l hj.2
theorem pgL {L : Nat} {t : Nat → Nat} {re : Nat → Nat → Res} {op : Nat} (he : ∀ i, i < L → PR L (i + 1) (re op i)) : ∀ n i, i ≤ L → PR L i (rdL L t re op n i)
  | 0, i, h => pr_l h
  | n + 1, i, h => by
    unfold rdL
    split
    · rename_i z
      have hi : i < L := ch_lt (t := t) (by rw [stC_t] at z; omega)
      have h1 := he i hi
      cases hr : re op i with
      | inl e => rw [hr] at h1; exact pr_l (h1.1 e rfl)
      | inr p =>
        obtain ⟨j, m⟩ := p
        rw [hr] at h1
        have hj := h1.2 j m rfl
        have hb := pgB (t := t) (m := m) hj.2
        have h2 := pgL (t := t) he n _ hb.2
        show PR L i (rdC _ _)
        cases hr2 : rdL L t re op n (rdB L t j m).1 with
        | inl e => rw [hr2] at h2; exact pr_l (h2.1 e rfl)
        | inr q =>
          obtain ⟨k, m2⟩ := q
          rw [hr2] at h2
          have := h2.2 k m2 rfl
          exact pr_r (by omega) this.2
    · exact pr_r (Nat.le_refl _) h
theorem pgW (L : Nat) (t : Nat → Nat) : ∀ d op i, i ≤ L → PR L i (RW L t d op i)
  | 0, _, _, h => pr_l h
  | d + 1, op, i, h => pgL (fun i hi => pgE (fun op i h => pgW L t d op i h) op hi) 41 i h
theorem pgRE (L : Nat) (t : Nat → Nat) (d op : Nat) {i : Nat} (hi : i < L) : PR L (i + 1) (rdE L t (RW L t d) op i) := pgE (fun op i h => pgW L t d op i h) op hi
/-! the class's checker -/
def skU (sk : Nat → Nat) (op c : Nat) : Nat → Nat := fun q => if q = op then c else sk q
def CKs (op : Nat) (sk : Nat → Nat) (sf : Nat) (σ : Dz) : Prop := (gz_i σ 4 1 = nI op) ∧ (op ≤ 6) ∧ (∀ q, q < op → gz_i σ 5 q = nI (sk q) ∧ sk q < 128) ∧ (gz_i σ 4 2 = nI sf) ∧ (sf ≤ 2)
theorem CKs.o {op : Nat} {sk : Nat → Nat} {sf : Nat} {σ : Dz} (h : CKs op sk sf σ) : gz_i σ 4 1 = nI op := h.1
theorem CKs.le {op : Nat} {sk : Nat → Nat} {sf : Nat} {σ : Dz} (h : CKs op sk sf σ) : op ≤ 6 := h.2.1
theorem CKs.k {op : Nat} {sk : Nat → Nat} {sf : Nat} {σ : Dz} (h : CKs op sk sf σ) : ∀ q, q < op → gz_i σ 5 q = nI (sk q) ∧ sk q < 128 := h.2.2.1
theorem CKs.s {op : Nat} {sk : Nat → Nat} {sf : Nat} {σ : Dz} (h : CKs op sk sf σ) : gz_i σ 4 2 = nI sf := h.2.2.2.1
theorem CKs.sl {op : Nat} {sk : Nat → Nat} {sf : Nat} {σ : Dz} (h : CKs op sk sf σ) : sf ≤ 2 := h.2.2.2.2
theorem CKs.cong {op sf : Nat} {sk sk' : Nat → Nat} {σ : Dz} (h : CKs op sk sf σ) (e : ∀ q, q < op → sk q = sk' q) : CKs op sk' sf σ := ⟨h.o, h.le, fun q hq => by rw [← e q hq]; exact h.k q hq, h.s, h.sl⟩
theorem q_isName {c : Nat} (hc : c < 1000) {post : Int32 → Prop} (h1 : 97 ≤ c ∧ c ≤ 101 → post 1) (h0 : ¬ (97 ≤ c ∧ c ≤ 101) → post 0) : P_X5_isName (nI c) post := by
  unfold P_X5_isName
  by_cases h : c < 97
  · exact br_t (by simp (disch := omega) only [fa_lit, nI_add, pk_mul, nI_ltI, nI_leI, nI_eq] <;> omega) (h0 (by omega))
  · refine br_f (by simp (disch := omega) only [fa_lit, nI_add, pk_mul, nI_ltI, nI_leI, nI_eq] <;> omega) ?_
    by_cases h2 : 102 ≤ c
    · exact br_t (by simp (disch := omega) only [fa_lit, nI_add, pk_mul, nI_ltI, nI_leI, nI_eq] <;> omega) (h0 (by omega))
    · exact br_f (by simp (disch := omega) only [fa_lit, nI_add, pk_mul, nI_ltI, nI_leI, nI_eq] <;> omega) (h1 (by omega))
theorem q_begins {op sf : Nat} {sk : Nat → Nat} {σ : Dz} (h : CKs op sk sf σ) {c : Nat} (hc : c < 128) {post : Int32 → Dz → Prop} (h1 : op < 6 → ∀ σ', eqO 4 6 σ σ' → CKs (op + 1) (skU sk op c) 0 σ' → post 1 σ') (h0 : op = 6 → post 0 σ) : P_X7_begins σ (nI c) post := by
  unfold P_X7_begins
  have hl := h.le
  rw [h.o]
  refine br_f (qn_lt (by omega)) ?_
  by_cases h6 : op < 6
  · refine br_t (by simp (disch := omega) only [fa_lit, nI_add, pk_mul, nI_ltI, nI_leI, nI_eq] <;> omega) ⟨ch_nar (by omega), vp_in_nI (by omega) (by omega), ?_⟩
    rw [nI_clamp (by omega), gi_cell (by omega), h.o, nI_1]
    refine h1 h6 _ ((((eo_r 4 6 σ).si (by omega) (by omega) _ _).si (by omega) (by omega) _ _).si (by omega) (by omega) _ _) ⟨by rw [gi_pl (by omega), gi_same], by omega, fun q hq => ?_, gi_same _ _ _ _, by omega⟩
    rw [gi_cell (by omega), gi_cell (by omega)]
    unfold skU
    by_cases e : q = op
    · rw [if_pos e, e, gi_same]; exact ⟨rfl, hc⟩
    · rw [if_neg e, gi_pl e]; exact h.k q (by omega)
  · exact br_f (by simp (disch := omega) only [fa_lit, nI_add, pk_mul, nI_ltI, nI_leI, nI_eq] <;> omega) (h0 (by omega))
theorem q_ends {op sf : Nat} {sk : Nat → Nat} {σ : Dz} (h : CKs op sk sf σ) {c : Nat} (hc : c < 128) {post : Int32 → Dz → Prop} (h1 : ∀ p, op = p + 1 → sk p = c → ∀ σ', eqO 4 6 σ σ' → CKs p sk 2 σ' → post 1 σ') (h0 : op = 0 ∨ sk (op - 1) ≠ c → post 0 σ) : P_X7_ends σ (nI c) post := by
  unfold P_X7_ends
  have hl := h.le
  rw [h.o]
  by_cases z : op = 0
  · exact br_t ((le_0 (by omega)).mpr z) (h0 (Or.inl z))
  · obtain ⟨p, rfl⟩ : ∃ p, op = p + 1 := ⟨op - 1, by omega⟩
    refine br_f (fun w => z ((le_0 (by omega)).mp w)) (br_f (by simp (disch := omega) only [fa_lit, nI_add, pk_mul, nI_ltI, nI_leI, nI_eq] <;> omega) ?_)
    rw [pm_s, nI_clamp (by omega), (h.k p (by omega)).1]
    have hb := (h.k p (by omega)).2
    refine ⟨vp_in_nI (by omega) (by omega), ?_⟩
    by_cases e : sk p = c
    · refine br_t (by rw [e]) (h1 p rfl e _ (((eo_r 4 6 σ).si (by omega) (by omega) _ _).si (by omega) (by omega) _ _) ⟨by rw [gi_pl (by omega), gi_same], by omega, fun q hq => ?_, gi_same _ _ _ _, by omega⟩)
      rw [gi_cell (by omega), gi_cell (by omega)]; exact h.k q (by omega)
    · exact br_f (by rw [nI_eq (by omega) (by omega)]; exact e) (h0 (Or.inr (by rw [Nat.add_sub_cancel]; exact e)))
/-- a character that is neither a start nor a suffix that fits, nor closes what is open -/
def noC (op : Nat) (sk : Nat → Nat) (sf c : Nat) : Prop := stC c = false ∧ ¬ (c = 39 ∧ sf = 2) ∧ ¬ (sf ≠ 0 ∧ 50 ≤ c ∧ c ≤ 57) ∧ (c = 41 → op = 0 ∨ sk (op - 1) ≠ 40) ∧ (c = 62 → op = 0 ∨ sk (op - 1) ≠ 44) ∧ (c = 44 → op = 0 ∨ sk (op - 1) ≠ 60)
theorem k_rej {op sf : Nat} {sk : Nat → Nat} {σ : Dz} (h : CKs op sk sf σ) {c : Nat} (hc : c < 128) (hn : noC op sk sf c) {post : Int32 → Dz → Prop} (hp : ∀ σ', eqO 4 6 σ σ' → post 0 σ') : P_X7_accepts σ (nI c) post := by
  unfold P_X7_accepts
  obtain ⟨n1, n2, n3, n4, n5, n6⟩ := hn
  rw [stC_f] at n1
  have hsl := h.sl
  have p0 := hp σ (eo_r _ _ _)
  refine q_isName (by omega) (fun z => absurd z n1.1) (fun _ => br_t rfl (br_f (by simp (disch := omega) only [fa_lit, nI_add, pk_mul, nI_ltI, nI_leI, nI_eq] <;> omega) (bn_f (by simp (disch := omega) only [fa_lit, nI_add, pk_mul, nI_ltI, nI_leI, nI_eq] <;> omega) ?_)))
  by_cases c41 : c = 41
  · subst c41
    exact bn_t rfl (q_ends h (c := 40) (by omega) (fun p e1 e2 => by rcases n4 rfl with z | z; omega; rw [e1] at z; exact absurd e2 z) (fun _ => ⟨Or.inl rfl, p0⟩))
  · refine bn_f (by simp (disch := omega) only [fa_lit, nI_add, pk_mul, nI_ltI, nI_leI, nI_eq] <;> omega) ?_
    by_cases c62 : c = 62
    · subst c62
      exact bn_t rfl (q_ends h (c := 44) (by omega) (fun p e1 e2 => by rcases n5 rfl with z | z; omega; rw [e1] at z; exact absurd e2 z) (fun _ => ⟨Or.inl rfl, p0⟩))
    · refine bn_f (by simp (disch := omega) only [fa_lit, nI_add, pk_mul, nI_ltI, nI_leI, nI_eq] <;> omega) ?_
      by_cases c44 : c = 44
      · subst c44
        exact bn_t rfl (q_ends h (c := 60) (by omega) (fun p e1 e2 => by rcases n6 rfl with z | z; omega; rw [e1] at z; exact absurd e2 z) (fun _ => br_t rfl p0))
      · refine bn_f (by simp (disch := omega) only [fa_lit, nI_add, pk_mul, nI_ltI, nI_leI, nI_eq] <;> omega) ?_
        by_cases c39 : c = 39
        · subst c39
          refine bn_t rfl (bn_f ?_ (hp _ ((eo_r _ _ _).si (by omega) (by omega) _ _)))
          rw [h.s, show (2 : Int32) = nI 2 from rfl, nI_eq (by omega) (by decide)]
          exact fun z => n2 ⟨rfl, z⟩
        · refine bn_f (by simp (disch := omega) only [fa_lit, nI_add, pk_mul, nI_ltI, nI_leI, nI_eq] <;> omega) ?_
          unfold B_X7_accepts_138
          have p1 := hp _ ((eo_r 4 6 σ).si (k := 4) (by omega) (by omega) 2 0)
          rw [h.s]
          by_cases s0 : sf = 0
          · exact br_t (by rw [s0]; rfl) p1
          · refine br_f (by rw [show (0 : Int32) = nI 0 from rfl, nI_eq (by omega) (by decide)]; exact s0) ?_
            by_cases c50 : c < 50
            · exact br_t (by simp (disch := omega) only [fa_lit, nI_add, pk_mul, nI_ltI, nI_leI, nI_eq] <;> omega) p1
            · exact br_f (by simp (disch := omega) only [fa_lit, nI_add, pk_mul, nI_ltI, nI_leI, nI_eq] <;> omega) (br_t (by have : ¬ c ≤ 57 := fun z => n3 ⟨s0, by omega, z⟩; simp (disch := omega) only [fa_lit, nI_add, pk_mul, nI_ltI, nI_leI, nI_eq]; omega) p1)
/-- from place i on -/
def KK (L : Nat) (post : Int32 → Dz → Prop) (σ : Dz) (i : Nat) : Prop := L_X7_errorIn_12 post (L + 1 - i) σ (nI i)
theorem kk_step {A : Abs} (o : okA A) {σ0 σ : Dz} (c0 : CI A σ0) (e : eqO 4 6 σ0 σ) {post : Int32 → Dz → Prop} {i : Nat} (hi : i < A.tl) (h : P_X7_accepts σ (nI (A.tx i)) (fun r τ => (¬ r = 0 → KK A.tl post τ (i + 1)) ∧ (r = 0 → post (nI i) τ))) : KK A.tl post σ i := by
  unfold KK
  have hl := o.tl
  rw [show A.tl + 1 - i = (A.tl - i) + 1 by omega]
  show B_X7_errorIn_12 _ _ _ _
  unfold B_X7_errorIn_12 P_X5_length
  have hl1 : gz_i σ 1 1 = nI A.tl := by rw [e.i (by omega)]; exact c0.tl
  rw [hl1]
  refine br_f (by simp (disch := omega) only [fa_lit, nI_add, pk_mul, nI_ltI, nI_leI, nI_eq] <;> omega) (q_textAt o hl1 (fun q hq => by rw [e.i (by omega)]; exact c0.tx q hq) hi ?_)
  rw [nI_1]
  unfold KK at h
  rw [show A.tl + 1 - (i + 1) = A.tl - i by omega] at h
  exact h
theorem kk_end {A : Abs} (o : okA A) {σ0 σ : Dz} (c0 : CI A σ0) (e : eqO 4 6 σ0 σ) {post : Int32 → Dz → Prop} {op sf : Nat} {sk : Nat → Nat} (h : CKs op sk sf σ) (h1 : op = 0 → post (-1) σ) (h2 : op ≠ 0 → post (nI A.tl) σ) : KK A.tl post σ A.tl := by
  unfold KK
  have hl := o.tl
  have hle := h.le
  rw [show A.tl + 1 - A.tl = 0 + 1 by omega]
  show B_X7_errorIn_12 _ _ _ _
  unfold B_X7_errorIn_12 P_X5_length
  have hl1 : gz_i σ 1 1 = nI A.tl := by rw [e.i (by omega)]; exact c0.tl
  rw [hl1, h.o]
  refine br_t (by simp (disch := omega) only [fa_lit, nI_add, pk_mul, nI_ltI, nI_leI, nI_eq] <;> omega) ?_
  by_cases z : op = 0
  · exact br_t ((le_0 (by omega)).mpr z) (h1 z)
  · exact br_f (fun w => z ((le_0 (by omega)).mp w)) (h2 z)
/-- the checker stops at j -/
theorem kk_stop {A : Abs} (o : okA A) {σ0 σ : Dz} (c0 : CI A σ0) (e : eqO 4 6 σ0 σ) {post : Int32 → Dz → Prop} {op sf j : Nat} {sk : Nat → Nat} (h : CKs op sk sf σ) (hj : j ≤ A.tl) (hop : op ≠ 0) (hn : noC op sk sf (chT A.tl A.tx j)) (hp : ∀ σ', eqO 4 6 σ0 σ' → post (nI j) σ') : KK A.tl post σ j := by
  rcases Nat.lt_or_ge j A.tl with z | z
  · have ht := o.tx j z
    rw [ch_in z] at hn
    exact kk_step o c0 e z (k_rej h (by omega) hn fun σ' e' => bn_t rfl (hp σ' (e.tr e')))
  · rw [show j = A.tl by omega] at hp ⊢
    exact kk_end o c0 e h (fun w => absurd w hop) (fun _ => hp σ e)
end QReader
