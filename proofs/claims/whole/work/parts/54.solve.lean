/-! solve -/
section QSolve
theorem nI_c {a b : Nat} (h : a = b) : nI a = nI b := by rw [h]
/-- the first letter that leads from y to depth t -/
def nxL (df : Nat → Bool) (ef : Nat → Nat) (y t : Nat) : Nat := fa_first (fun l => df (l / 2) && decide (lvI (allQ df ef) (cmp y (ef l)) = nI t)) 10
def pthX (df : Nat → Bool) (ef : Nat → Nat) (d0 x : Nat) : Nat → Nat
  | 0 => x
  | k + 1 => cmp (pthX df ef d0 x k) (ef (nxL df ef (pthX df ef d0 x k) (d0 - k - 1)))
def pthL (df : Nat → Bool) (ef : Nat → Nat) (d0 x k : Nat) : Nat := nxL df ef (pthX df ef d0 x k) (d0 - k - 1)
theorem ef_inv {n : Nat} {S : Sit} (o : okSit n S) {l : Nat} (hl : l < 10) : S.ef (l ^^^ 1) = ivN (S.ef l) := by
  rcases (show l % 2 = 0 ∨ l % 2 = 1 by omega) with h | h
  · have e : l ^^^ 1 = 2 * (l / 2) + 1 := by
      have := xor_10 l hl
      rcases (show l = 0 ∨ l = 1 ∨ l = 2 ∨ l = 3 ∨ l = 4 ∨ l = 5 ∨ l = 6 ∨ l = 7 ∨ l = 8 ∨ l = 9 by omega) with z | z | z | z | z | z | z | z | z | z <;> subst z <;> first | rfl | omega
    rw [e, o.iv (l / 2) (by omega), show 2 * (l / 2) = l by omega]
  · have e : l ^^^ 1 = 2 * (l / 2) := by
      rcases (show l = 0 ∨ l = 1 ∨ l = 2 ∨ l = 3 ∨ l = 4 ∨ l = 5 ∨ l = 6 ∨ l = 7 ∨ l = 8 ∨ l = 9 by omega) with z | z | z | z | z | z | z | z | z | z <;> subst z <;> first | rfl | omega
    have h2 := o.iv (l / 2) (by omega)
    rw [show 2 * (l / 2) + 1 = l by omega] at h2
    rw [e, h2, iv_iv (o.pk _ (by omega))]
theorem lv_mem {Q : QL} {z : Nat} (nd : ndQ Q) (h : ¬ lvI Q z = -1) : ∃ i, i < Q.length ∧ (atQ Q i).1 = z ∧ lvI Q z = nI (atQ Q i).2 := by
  cases hh : hasQ Q z with
  | true => exact lvq_has nd hh
  | false => exact absurd (lvQ_none hh) h
/-- from depth t + 1 a letter leads to depth t -/
theorem nx_ok {n : Nat} {S : Sit} (o : okSit n S) (h2 : 2 ≤ n) (h7 : n ≤ 7) {y t : Nat} (ht : t + 1 < 2 ^ 31) (hy : lvI (allQ S.df S.ef) y = nI (t + 1)) : nxL S.df S.ef y t < 10 ∧ S.df (nxL S.df S.ef y t / 2) = true ∧ lvI (allQ S.df S.ef) (cmp y (S.ef (nxL S.df S.ef y t))) = nI t := by
  have f := all_facts o h2 h7
  obtain ⟨j, j1, j2, j3⟩ := lv_mem f.nd (by rw [hy]; exact nI_m1 ht)
  have hdj := f.dp _ (at_mem j1)
  have htp := f.tp
  rw [hy, nI_eq ht (by omega)] at j3
  have hj0 : 0 < j := by
    rcases Nat.eq_zero_or_pos j with z | z
    · have : atQ (allQ S.df S.ef) 0 = (1754760, 0) := (bfs_dep S.df S.ef 5040).2.2.1
      rw [z, this] at j3; cases j3
    · exact z
  obtain ⟨i, l, a1, a2, a3, a4, a5⟩ := (bfs_dep S.df S.ef 5040).2.2.2 j hj0 j1
  have a4 : (atQ (allQ S.df S.ef) j).2 = (atQ (allQ S.df S.ef) i).2 + 1 := a4
  have a5 : (atQ (allQ S.df S.ef) j).1 = cmp (atQ (allQ S.df S.ef) i).1 (S.ef l) := a5
  have hl := mem_lets a3
  have hi : i < (allQ S.df S.ef).length := by omega
  have hp := f.pk _ (at_mem hi)
  have he := o.pk l hl.1
  have hback : cmp y (S.ef (l ^^^ 1)) = (atQ (allQ S.df S.ef) i).1 := by
    rw [ef_inv o hl.1, ← j2, a5, cmp_assoc hp he, cmp_iv he, cmp_id hp]
  have hlv : lvI (allQ S.df S.ef) (cmp y (S.ef (l ^^^ 1))) = nI t := by
    rw [hback, lvQ_at f.nd hi]; exact nI_c (by omega)
  have hx := xor_10 l hl.1
  have hlt : nxL S.df S.ef y t < 10 := by
    rcases Nat.lt_or_ge (nxL S.df S.ef y t) 10 with z | z
    · exact z
    · have := fa_first_no (fun l => S.df (l / 2) && decide (lvI (allQ S.df S.ef) (cmp y (S.ef l)) = nI t)) 10 (l ^^^ 1) (Nat.lt_of_lt_of_le hx.1 z)
      rw [hx.2, hl.2, decide_eq_true hlv] at this
      cases this
  have := fa_first_yes (fun l => S.df (l / 2) && decide (lvI (allQ S.df S.ef) (cmp y (S.ef l)) = nI t)) 10 hlt
  rw [Bool.and_eq_true, decide_eq_true_eq] at this
  exact ⟨hlt, this.1, this.2⟩
theorem pth_ok {n : Nat} {S : Sit} (o : okSit n S) (h2 : 2 ≤ n) (h7 : n ≤ 7) {d0 x : Nat} (hd : d0 ≤ 5040) (hx : isPk n x) (h : lvI (allQ S.df S.ef) x = nI d0) : ∀ k, k ≤ d0 → isPk n (pthX S.df S.ef d0 x k) ∧ lvI (allQ S.df S.ef) (pthX S.df S.ef d0 x k) = nI (d0 - k)
  | 0, _ => ⟨hx, h⟩
  | k + 1, hk => by
    obtain ⟨p1, p2⟩ := pth_ok o h2 h7 hd hx h k (by omega)
    have := nx_ok o h2 h7 (t := d0 - k - 1) (by omega) (by rw [p2]; exact nI_c (by omega))
    exact ⟨p1.cmp (o.pk _ this.1), by rw [show d0 - (k + 1) = d0 - k - 1 by omega]; exact this.2.2⟩
theorem pth_let {n : Nat} {S : Sit} (o : okSit n S) (h2 : 2 ≤ n) (h7 : n ≤ 7) {d0 x : Nat} (hd : d0 ≤ 5040) (hx : isPk n x) (h : lvI (allQ S.df S.ef) x = nI d0) {k : Nat} (hk : k < d0) : okL S.df (pthL S.df S.ef d0 x k) := by
  obtain ⟨p1, p2⟩ := pth_ok o h2 h7 hd hx h k (by omega)
  have := nx_ok o h2 h7 (t := d0 - k - 1) (by omega) (by rw [p2]; exact nI_c (by omega))
  exact ⟨this.1, this.2.1⟩
theorem q_firstLetter {A : Abs} (o : okA A) {σ : Dz} (c : CI A σ) (T : CTab A.n A.S.df A.S.ef σ) {y t : Nat} (hy : isPk A.n y) (ht : t + 1 < 2 ^ 31) (hl : lvI (allQ A.S.df A.S.ef) y = nI (t + 1)) {post : Int32 → Prop} (hp : post (nI (nxL A.S.df A.S.ef y t))) : P_X9_firstLetterTo σ (nI y) (nI t) post := by
  unfold P_X9_firstLetterTo
  obtain ⟨n1, n2, n3⟩ := nx_ok o.S o.n1 o.n2 ht hl
  have no := fa_first_no (fun l => A.S.df (l / 2) && decide (lvI (allQ A.S.df A.S.ef) (cmp y (A.S.ef l)) = nI t)) 10
  have key : ∀ k l, l + k = nxL A.S.df A.S.ef y t → L_X9_firstLetterTo_2 σ post (k + 1) (nI y) (nI t) (nI l) := by
    intro k
    induction k with
    | zero =>
      intro l hl2
      have hl2 : l = nxL A.S.df A.S.ef y t := by omega
      show B_X9_firstLetterTo_2 _ _ _ _ _ _
      unfold B_X9_firstLetterTo_2 B_X9_firstLetterTo_50
      have pe := o.S.pk l (by omega)
      have h1 := hy.1
      have h2 := pe.1
      refine br_f (by simp (disch := omega) only [fa_lit, nI_add, pk_mul, nI_ltI, nI_leI, nI_eq] <;> omega) (q_effectOfLetter c.S (by omega) (q_then (by omega) (by omega) ?_))
      rw [show (2 : Int32) = nI 2 from rfl, pk_div (by omega) (by omega) (by decide)]
      refine q_isDefined c.S (by omega) ?_
      rw [hl2, n2]
      refine br_f (by decide) (q_levelOf o T (z := cmp y (A.S.ef (nxL A.S.df A.S.ef y t))) (hy.cmp (o.S.pk _ n1)) ?_)
      rw [n3]
      exact bn_t rfl hp
    | succ k ih =>
      intro l hl2
      show B_X9_firstLetterTo_2 _ _ _ _ _ _
      unfold B_X9_firstLetterTo_2 B_X9_firstLetterTo_50
      have pe := o.S.pk l (by omega)
      have h1 := hy.1
      have h2 := pe.1
      have nx := ih (l + 1) (by omega)
      rw [← nI_1] at nx
      refine br_f (by simp (disch := omega) only [fa_lit, nI_add, pk_mul, nI_ltI, nI_leI, nI_eq] <;> omega) (q_effectOfLetter c.S (by omega) (q_then (by omega) (by omega) ?_))
      rw [show (2 : Int32) = nI 2 from rfl, pk_div (by omega) (by omega) (by decide)]
      refine q_isDefined c.S (by omega) ?_
      have hno := no l (show l < nxL A.S.df A.S.ef y t by omega)
      cases hdf : A.S.df (l / 2) with
      | false => exact br_t rfl nx
      | true =>
        rw [hdf, Bool.true_and, decide_eq_false_iff_not] at hno
        refine br_f (by decide) (q_levelOf o T (z := cmp y (A.S.ef l)) (hy.cmp pe) (bn_f hno nx))
  exact ⟨nxL A.S.df A.S.ef y t + 1, key _ 0 (by omega)⟩
theorem le_0 {a : Nat} (h : a < 2 ^ 31) : nI a ≤ 0 ↔ a = 0 := by
  rw [show (0 : Int32) = nI 0 from rfl, nI_leI h (by decide)]; omega
/-- the class's loop -/
theorem q_solveL {A : Abs} (o : okA A) {σ0 : Dz} (c0 : CI A σ0) (T0 : CTab A.n A.S.df A.S.ef σ0) {d0 s : Nat} (hs : s < 4) (hd : d0 ≤ 5040) (h : lvI (allQ A.S.df A.S.ef) A.S.pl = nI d0) {post : Int32 → Dz → Prop} {px : String → Dz → Prop} (hp : ∀ σ', CI (withS A (setW A.S s (min 200 d0) (pthL A.S.df A.S.ef d0 A.S.pl))) σ' → eqO 0 43 σ0 σ' → post (nI (min 200 d0)) σ') : ∀ m k σ, k + m = d0 → eqO 39 41 σ0 σ → isWd 39 (min 200 k) (pthL A.S.df A.S.ef d0 A.S.pl) σ → L_X9_solve_27 post px (m + 1) σ (nI s) (nI (pthX A.S.df A.S.ef d0 A.S.pl k)) (nI m) := by
  intro m
  induction m with
  | zero =>
    intro k σ hk e w
    show B_X9_solve_27 _ _ _ _ _ _ _
    unfold B_X9_solve_27
    have : k = d0 := by omega
    subst this
    exact br_t (Int32.le_refl _) (c_keep c0 e hs w fun σ' c' e' => hp σ' c' e')
  | succ m ih =>
    intro k σ hk e w
    show B_X9_solve_27 _ _ _ _ _ _ _
    unfold B_X9_solve_27
    obtain ⟨p1, p2⟩ := pth_ok o.S o.n1 o.n2 hd o.S.at_ h k (by omega)
    have hL := pth_let o.S o.n1 o.n2 hd o.S.at_ h (show k < d0 by omega)
    have c := c0.draft e
    refine br_f (by rw [le_0 (by omega)]; omega) ?_
    rw [pm_s]
    refine q_firstLetter o c (T0.keep fun q a b j => e.i (by omega) j) p1 (by omega) (by rw [p2]; exact nI_c (by omega)) ?_
    have el : nxL A.S.df A.S.ef (pthX A.S.df A.S.ef d0 A.S.pl k) m = pthL A.S.df A.S.ef d0 A.S.pl k := by unfold pthL; rw [show d0 - k - 1 = m by omega]
    rw [el]
    have rest : ∀ σ', eqO 39 41 σ0 σ' → isWd 39 (min 200 (k + 1)) (pthL A.S.df A.S.ef d0 A.S.pl) σ' → P_X4_effectOfLetter σ' 17 (nI (pthL A.S.df A.S.ef d0 A.S.pl k)) (fun (r60 : Int32) => (P_X3_then (nI (pthX A.S.df A.S.ef d0 A.S.pl k)) r60 (fun (r63 : Int32) => L_X9_solve_27 post px (m + 1) σ' (nI s) r63 (nI (m + 1) + (-1))))) := by
      intro σ' e' w'
      have pe := (o.S.pk _ hL.1).1
      have pp := p1.1
      refine q_effectOfLetter (c0.draft e').S hL.1 (q_then (by omega) (by omega) ?_)
      rw [pm_m, pm_s]
      exact ih (k + 1) σ' (by omega) e' w'
    refine q_add w _ (fun hlt σ' e' w' => rest σ' (e.tr e') ?_) (fun hf => rest σ e ?_)
    · rw [show min 200 (k + 1) = min 200 k + 1 by omega]
      refine w'.cong fun i hi => ?_
      by_cases hi2 : i < min 200 k
      · rw [catD_0 _ _ _ hi2]
      · rw [catD_1 _ _ _ (by omega), show i = k by omega]
    · rw [show min 200 (k + 1) = min 200 k by omega]; exact w
/-- the model: state and next may change -/
theorem MI.rows {A : Abs} {σ σ' : Dz} (m : MI A σ) (e : eqO 63 65 σ σ') : MI A σ' := m.keep (fun k h1 h2 j => ⟨e.i (by omega) j, e.f (by omega) j, e.d (by omega) j⟩) (fun j _ => e.i (by omega) j)
theorem MTab.rows {n : Nat} {df : Nat → Bool} {ef : Nat → Nat} {σ σ' : Dz} (h : MTab n df ef σ) (e : eqO 63 65 σ σ') : MTab n df ef σ' := h.keep (e.i (by omega) _) (e.i (by omega) _) (fun j => e.i (by omega) j) (fun j => e.i (by omega) j)
theorem isMd.rows {l : Nat} {d : Nat → Nat} {f : Bool} {σ σ' : Dz} (h : isMd l d f σ) (e : eqO 63 65 σ σ') : isMd l d f σ' := ⟨by rw [e.i (by omega)]; exact h.1, h.2.1, fun i hi => by rw [e.i (by omega)]; exact h.2.2.1 i hi, by rw [e.i (by omega)]; exact h.2.2.2⟩
theorem MTab.come {n : Nat} {df : Nat → Bool} {ef : Nat → Nat} {σ σ' : Dz} (h : MTab n df ef σ) (e : eqC σ σ') : MTab n df ef σ' := h.keep (e.m (by omega)) (e.m (by omega)) (fun j => e.i (by omega) j) (fun j => e.i (by omega) j)
theorem m_copyRow {n y : Nat} (h7 : n ≤ 7) {post : Int32 → Dz → Prop} {rc61 : Dz → Int32 → Int32 → Prop} {y1 y2 : Int32} {σ0 : Dz} (hn : gz_i σ0 43 1 = nI n) (r : rowM 64 n y σ0) (hr : ∀ σ', eqO 63 65 σ0 σ' → rowM 63 n y σ' → rc61 σ' y1 (y2 + (-1))) : ∃ q, L_X10_solve_138 post rc61 q σ0 y1 y2 (1 : Int32) := by
  have key : ∀ k p σ, p + k = n → eqO 63 64 σ0 σ → rowM 63 p y σ → L_X10_solve_138 post rc61 (k + 1) σ y1 y2 (nI (p + 1)) := by
    intro k
    induction k with
    | zero =>
      intro p σ hp e r2
      show B_X10_solve_138 _ _ _ _ _ _ _
      unfold B_X10_solve_138
      rw [e.i (by omega), hn]
      have : p = n := by omega
      subst this
      exact br_t (by simp (disch := omega) only [fa_lit, nI_add, pk_mul, nI_ltI, nI_leI, nI_eq] <;> omega) (hr σ (e.mono (by omega) (by omega)) r2)
    | succ k ih =>
      intro p σ hp e r2
      show B_X10_solve_138 _ _ _ _ _ _ _
      unfold B_X10_solve_138
      rw [e.i (k := 43) (by omega), e.i (k := 64) (by omega), hn, nI_clamp (by omega), r p (by omega)]
      refine br_f (by simp (disch := omega) only [fa_lit, nI_add, pk_mul, nI_ltI, nI_leI, nI_eq] <;> omega) ⟨vp_in_nI (by omega) (by omega), vp_in_nI (by omega) (by omega), ?_⟩
      rw [nI_1]
      refine ih (p + 1) _ (by omega) (e.si (by omega) (by omega) _ _) fun q hq => ?_
      by_cases hq2 : q = p
      · rw [hq2, gi_same]
      · rw [gi_pl (by omega)]; exact r2 q (by omega)
  exact ⟨n + 1, key n 0 σ0 (by omega) (eo_r _ _ _) (fun q hq => absurd hq (Nat.not_lt_zero q))⟩
/-- the model's search for the letter -/
theorem m_nextL {A : Abs} (o : okA A) {σ0 : Dz} (m0 : MI A σ0) (T0 : MTab A.n A.S.df A.S.ef σ0) {y t : Nat} (hy : isPk A.n y) (ht : t + 1 < 2 ^ 31) (hl : lvI (allQ A.S.df A.S.ef) y = nI (t + 1)) (r0 : rowM 63 A.n (ivN y) σ0) {post : Int32 → Dz → Prop} {rc61 : Dz → Int32 → Int32 → Prop} {y1 : Int32} (hr : ∀ σ', eqO 64 65 σ0 σ' → rowM 64 A.n (ivN (cmp y (A.S.ef (nxL A.S.df A.S.ef y t)))) σ' → P_X10_comes σ' (nI (nxL A.S.df A.S.ef y t)) (fun (τ132 : Dz) => (∃ n, L_X10_solve_138 post rc61 n τ132 y1 (nI (t + 1)) (1 : Int32)))) : ∃ q, L_X10_solve_70 post rc61 q σ0 y1 (nI (t + 1)) (0 : Int32) (0 : Int32) := by
  obtain ⟨n1, n2, n3⟩ := nx_ok o.S o.n1 o.n2 ht hl
  have no := fa_first_no (fun l => A.S.df (l / 2) && decide (lvI (allQ A.S.df A.S.ef) (cmp y (A.S.ef l)) = nI t)) 10
  have key : ∀ k l σ, l + k = nxL A.S.df A.S.ef y t → eqO 64 65 σ0 σ → L_X10_solve_70 post rc61 (k + 2) σ y1 (nI (t + 1)) (nI l) 0 := by
    intro k
    induction k with
    | zero =>
      intro l σ hl2 e
      have hl2 : l = nxL A.S.df A.S.ef y t := by omega
      subst hl2
      show B_X10_solve_70 _ _ _ _ _ _ _ _
      unfold B_X10_solve_70 B_X10_solve_112 B_X10_solve_114 B_X10_solve_125
      have m1 := m0.rows (e.mono (by omega) (by omega))
      have T1 := T0.rows (e.mono (by omega) (by omega))
      refine bn_t rfl (m_isLetter m1.S n1 ?_)
      rw [n2]
      refine br_f (by decide) (m_moves o.S m1.n o.n2 m1.S hy n1 n2 (fun p hp => by rw [e.i (by omega)]; exact r0 p hp) fun σ' e' r' => ?_)
      have hz := hy.cmp (o.S.pk _ n1)
      have hN := num_lt o.n2 (ivN (cmp y (A.S.ef (nxL A.S.df A.S.ef y t))))
      refine m_numberOf (by rw [e'.i (by omega)]; exact m1.n) o.n2 r' ⟨vp_in_nI hN (by omega), ?_⟩
      rw [nI_clamp (by omega), pm_s, (T1.rows (e'.mono (by omega) (by omega))).lv _ hz, n3]
      refine bn_t rfl (br_f (by decide) ?_)
      show B_X10_solve_70 _ _ _ _ _ _ _ _
      unfold B_X10_solve_70
      refine bn_f (by decide) ?_
      rw [show (0 : Int32) = nI 0 from rfl, nI_add, Nat.add_zero]
      exact hr σ' (e.tr e') r'
    | succ k ih =>
      intro l σ hl2 e
      show B_X10_solve_70 _ _ _ _ _ _ _ _
      unfold B_X10_solve_70 B_X10_solve_112 B_X10_solve_114 B_X10_solve_125
      have m1 := m0.rows (e.mono (by omega) (by omega))
      have T1 := T0.rows (e.mono (by omega) (by omega))
      have hno := no l (show l < nxL A.S.df A.S.ef y t by omega)
      refine bn_t rfl (m_isLetter m1.S (by omega) ?_)
      cases hdf : A.S.df (l / 2) with
      | false =>
        refine br_t rfl (br_t rfl ?_)
        rw [nI_1]; exact ih (l + 1) σ (by omega) e
      | true =>
        rw [hdf, Bool.true_and, decide_eq_false_iff_not] at hno
        refine br_f (by decide) (m_moves o.S m1.n o.n2 m1.S hy (by omega) hdf (fun p hp => by rw [e.i (by omega)]; exact r0 p hp) fun σ' e' r' => ?_)
        have hz := hy.cmp (o.S.pk l (by omega))
        have hN := num_lt o.n2 (ivN (cmp y (A.S.ef l)))
        refine m_numberOf (by rw [e'.i (by omega)]; exact m1.n) o.n2 r' ⟨vp_in_nI hN (by omega), ?_⟩
        rw [nI_clamp (by omega), pm_s, (T1.rows (e'.mono (by omega) (by omega))).lv _ hz]
        refine bn_f hno (br_t rfl ?_)
        rw [nI_1]; exact ih (l + 1) σ' (by omega) (e.tr e')
  exact ⟨nxL A.S.df A.S.ef y t + 2, key _ 0 σ0 (by omega) (eo_r _ _ _)⟩
theorem m_solveL {A : Abs} (o : okA A) {σ0 : Dz} {d0 s : Nat} (hs : s < 4) (hd : d0 ≤ 5040) (h : lvI (allQ A.S.df A.S.ef) A.S.pl = nI d0) {post : Int32 → Dz → Prop} (hp : ∀ σ', MI (withS A (setW A.S s (min 200 d0) (pthL A.S.df A.S.ef d0 A.S.pl))) σ' → eqO 43 66 σ0 σ' → gz_i σ' 43 0 = 0 → post (nI (min 200 d0)) σ') : ∀ m k σ f, k + m = d0 → eqO 43 66 σ0 σ → MI A σ → MTab A.n A.S.df A.S.ef σ → rowM 63 A.n (ivN (pthX A.S.df A.S.ef d0 A.S.pl k)) σ → isMd (min 200 k) (pthL A.S.df A.S.ef d0 A.S.pl) f σ → L_X10_solve_61 post (m + 1) σ (nI s) (nI m) := by
  intro m
  induction m with
  | zero =>
    intro k σ f hk e mi T r w
    show B_X10_solve_61 _ _ _ _ _
    unfold B_X10_solve_61
    have : k = d0 := by omega
    subst this
    exact br_t (Int32.le_refl _) (m_keep o mi (es_r 57 61 σ) hs w fun σ' m' e' h' => hp σ' m' (e.tr e') h')
  | succ m ih =>
    intro k σ f hk e mi T r w
    show B_X10_solve_61 _ _ _ _ _
    unfold B_X10_solve_61
    obtain ⟨p1, p2⟩ := pth_ok o.S o.n1 o.n2 hd o.S.at_ h k (by omega)
    have hL := pth_let o.S o.n1 o.n2 hd o.S.at_ h (show k < d0 by omega)
    have el : nxL A.S.df A.S.ef (pthX A.S.df A.S.ef d0 A.S.pl k) m = pthL A.S.df A.S.ef d0 A.S.pl k := by unfold pthL; rw [show d0 - k - 1 = m by omega]
    refine br_f (by rw [le_0 (by omega)]; omega) (m_nextL o mi T p1 (by omega) (by rw [p2]; exact nI_c (by omega)) r fun σ1 e1 r1 => ?_)
    have e1' : eqO 63 65 σ σ1 := e1.mono (by omega) (by omega)
    rw [el] at r1 ⊢
    refine m_comes (w.rows e1') _ fun σ2 e2 w2 => ?_
    have m2 : MI A σ2 := (mi.rows e1').made (e2.s.mono (by omega) (by omega))
    have r2 : rowM 64 A.n (ivN (cmp (pthX A.S.df A.S.ef d0 A.S.pl k) (A.S.ef (pthL A.S.df A.S.ef d0 A.S.pl k)))) σ2 := fun p hp => by rw [e2.i (by omega)]; exact r1 p hp
    refine m_copyRow o.n2 m2.n r2 fun σ3 e3 r3 => ?_
    rw [pm_m, pm_s]
    refine ih (k + 1) σ3 (f || decide (200 < min 200 k + 1)) (by omega) (((e.tr (e1.mono (by omega) (by omega))).tr (e2.s.eo (by omega) (by omega))).tr (e3.mono (by omega) (by omega))) (m2.rows e3) (((T.rows e1').come e2).rows e3) r3 ?_
    refine (w2.rows e3).cong (by omega) (fun i hi => ?_) rfl
    by_cases hi2 : i < min 200 k
    · rw [catD_0 _ _ _ hi2]
    · rw [catD_1 _ _ _ (by omega), show i = k by omega]
theorem m_solve0 {A : Abs} (o : okA A) {σ0 : Dz} (mi : MI A σ0) {post : Int32 → Dz → Prop} {y1 y2 : Int32} (hr : ∀ σ', eqO 63 65 σ0 σ' → rowM 63 A.n (ivN A.S.pl) σ' → ∃ q, L_X10_solve_61 post q σ' y1 y2) : ∃ q, L_X10_solve_35 post q σ0 y1 y2 (1 : Int32) := by
  have h7 := o.n2
  have key : ∀ k p σ, p + k = A.n → eqO 63 64 σ0 σ → rowM 63 p (ivN A.S.pl) σ → L_X10_solve_35 post (k + 1) σ y1 y2 (nI (p + 1)) := by
    intro k
    induction k with
    | zero =>
      intro p σ hp e r2
      show B_X10_solve_35 _ _ _ _ _ _
      unfold B_X10_solve_35
      rw [e.i (by omega), mi.n]
      rw [show p = A.n by omega] at r2 ⊢
      exact br_t (by simp (disch := omega) only [fa_lit, nI_add, pk_mul, nI_ltI, nI_leI, nI_eq] <;> omega) (hr σ (e.mono (by omega) (by omega)) r2)
    | succ k ih =>
      intro p σ hp e r2
      show B_X10_solve_35 _ _ _ _ _ _
      unfold B_X10_solve_35
      rw [e.i (k := 43) (by omega), e.i (k := 44) (by omega), mi.n, nI_clamp (by omega), mi.S.to p (by omega)]
      refine br_f (by simp (disch := omega) only [fa_lit, nI_add, pk_mul, nI_ltI, nI_leI, nI_eq] <;> omega) ⟨vp_in_nI (by omega) (by omega), vp_in_nI (by omega) (by omega), ?_⟩
      rw [nI_1]
      refine ih (p + 1) _ (by omega) (e.si (by omega) (by omega) _ _) fun q hq => ?_
      by_cases hq2 : q = p
      · rw [hq2, gi_same]
      · rw [gi_pl (by omega)]; exact r2 q (by omega)
  exact ⟨A.n + 1, key A.n 0 σ0 (by omega) (eo_r _ _ _) (fun q hq => absurd hq (Nat.not_lt_zero q))⟩
theorem cs_solve {L : Nat} {xs : Nat → Int32} {rc : Dz → Int32 → Prop} {σ : Dz} {y5 : Int32} (g1 : vp_in (y5 + 1) L) (hI : Inv σ) (hr : ∀ σ', Inv σ' → rc σ' (y5 + 4)) : B_L_law_1389 L xs rc σ y5 := by
  unfold B_L_law_1389 P_L_solve P_X9_solve P_X10_solve P_X10_fails P_X4_places
  refine ⟨g1, ?_⟩
  generalize xs (y5 + 1).toNatClampNeg = x
  obtain ⟨A, o, c, m⟩ := hI
  rcases slots x with ⟨s, hs, rfl⟩ | ⟨hc, hm⟩
  · refine slot_c hs (q_presentDepth o c (fun h σ1 e1 c1 => Or.inr ⟨rfl, g1, slot_m hs (bn_f (by decide) ?_)⟩) (fun h σ1 e1 c1 T1 => ?_))
    · refine m_depthNow o (m.byC (e1.mono (by omega) (by omega))) fun σ2 e2 m2 T2 => bn_t h ?_
      exact bad_i o (c1.byM e2.eo) m2 (by decide) hr
    · have f := all_facts o.S o.n1 o.n2
      obtain ⟨j, j1, j2, j3⟩ := lv_mem f.nd h
      have hd := f.dp _ (at_mem j1)
      have ht := f.tp
      generalize (atQ (allQ A.S.df A.S.ef) j).2 = d0 at *
      rw [j3]
      refine c_clear39 (A := A) fun σ2 e2 w2 => ?_
      have c2 := c1.draft e2
      rw [c2.S.pl]
      refine ⟨d0 + 1, q_solveL o c2 (T1.keep fun q a b i => e2.i (by omega) i) hs (by omega) j3 (fun σ3 c3 e3 => ?_) d0 0 σ2 (by omega) (eo_r _ _ _) (w2 _)⟩
      have e4 : eqO 0 43 σ σ3 := ((e1.mono (by omega) (by omega)).tr (e2.mono (by omega) (by omega))).tr e3
      refine ⟨g1, slot_m hs (bn_f (by decide) (m_depthNow o ((m.byC e4).sl _ _) fun σ5 e5 m5 T5 => ?_))⟩
      refine bn_f h ?_
      rw [j3]
      refine m_clr (A := A) fun σ6 e6 w6 => ?_
      have m6 := m5.made e6
      have T6 : MTab A.n A.S.df A.S.ef σ6 := T5.keep (e6.m (by omega)) (e6.m (by omega)) (fun i => e6.i (by omega) i) (fun i => e6.i (by omega) i)
      refine m_solve0 o m6 fun σ7 e7 r7 => ⟨d0 + 1, m_solveL o (σ0 := σ5) hs (by omega) j3 (fun σ8 m8 e8 h8 => ?_) d0 0 σ7 false (by omega) ((e6.eo (by omega) (by omega)).tr (e7.mono (by omega) (by omega))) (m6.rows e7) (T6.rows e7) r7 ((w6 _).rows e7)⟩
      refine both_i (o.setW (by omega) fun i hi => ?_) c3 m8 (e5.eo.tr e8) h8 hr
      exact pth_let o.S o.n1 o.n2 (by omega) o.S.at_ j3 (by omega)
  · exact hc _ _ (Or.inl ⟨rfl, g1, hm _ (bn_t rfl (bad_i o c m (by decide) hr))⟩)
end QSolve
