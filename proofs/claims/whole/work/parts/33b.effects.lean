/-! what words do: order, isOdd, cycleLength, isSame -/
section QEffects
theorem isPk.lt {n x i : Nat} (h : isPk n x) (h7 : n ≤ 7) (hi : i < n) : imgN x i < n := by
  have h1 := h.2.1 i (by omega)
  by_cases hn : imgN x i < n
  · exact hn
  · have h2 := h.2.2.2 (imgN x i) h1 (by omega)
    have h3 := h.2.2.1 (imgN x i) i h1 (by omega) h2
    omega
def effN (S : Sit) (s : Nat) : Nat → Nat
  | 0 => 1754760
  | k + 1 => cmp (effN S s k) (S.ef (S.wd s k))
def effW (S : Sit) (s : Nat) : Nat := effN S s (S.wl s)
theorem effN_pk {n : Nat} {S : Sit} (o : okSit n S) {s : Nat} (hs : s < 4) : ∀ k, k ≤ S.wl s → isPk n (effN S s k)
  | 0, _ => isPk_id n
  | k + 1, h => (effN_pk o hs k (by omega)).cmp (o.pk _ (o.ok s hs k (by omega)).1)
theorem effW_pk {n : Nat} {S : Sit} (o : okSit n S) {s : Nat} (hs : s < 4) : isPk n (effW S s) := effN_pk o hs _ (Nat.le_refl _)
theorem q_effectOfWord {A : Abs} (o : okA A) {σ : Dz} (c : CI A σ) {s : Nat} (hs : s < 4) {post : Int32 → Prop} (hp : post (nI (effW A.S s))) : P_X4_effectOfWord σ 17 (nI s) post := by
  unfold P_X4_effectOfWord
  refine q_word hs ?_
  have hw := c.S.word o.S hs
  have hl := o.S.le s hs
  have key : ∀ k i, i + k = A.S.wl s → L_X4_effectOfWord_12 σ 17 post (k + 1) (17 + 3 + 2 * s) (nI (effN A.S s i)) (nI i) := by
    intro k
    induction k with
    | zero =>
      intro i hi
      show B_X4_effectOfWord_12 _ _ _ _ _ _ _
      unfold B_X4_effectOfWord_12 P_X6_length
      rw [hw.1]
      have : i = A.S.wl s := by omega
      subst this
      exact br_t (by simp (disch := omega) only [fa_lit, nI_add, pk_mul, nI_ltI, nI_leI, nI_eq] <;> omega) hp
    | succ k ih =>
      intro i hi
      show B_X4_effectOfWord_12 _ _ _ _ _ _ _
      unfold B_X4_effectOfWord_12 P_X6_length
      rw [hw.1]
      have ok := o.S.ok s hs i (by omega)
      refine br_f (by simp (disch := omega) only [fa_lit, nI_add, pk_mul, nI_ltI, nI_leI, nI_eq] <;> omega) (q_at hw (by omega) (q_effectOfLetter c.S ok.1 (q_then ?_ ?_ ?_)))
      · have := (effN_pk o.S hs i (by omega)).1; omega
      · have := (o.S.pk _ ok.1).1; omega
      · rw [nI_1]; exact ih (i + 1) (by omega)
  exact ⟨A.S.wl s + 1, key _ 0 (by omega)⟩
theorem m_ledBy {A : Abs} (o : okA A) {σ : Dz} (m : MI A σ) {s p : Nat} (hs : s < 4) (hp : p < A.n) {post : Int32 → Prop} (hq : post (nI (imgN (effW A.S s) p + 1))) : P_X10_ledBy σ (nI s) (nI (p + 1)) post := by
  unfold P_X10_ledBy
  have h7 := o.n2
  have hl := o.S.le s hs
  have key : ∀ k i, i + k = A.S.wl s → L_X10_ledBy_5 σ post (k + 1) (nI s) (nI (imgN (effN A.S s i) p + 1)) (nI i) := by
    intro k
    induction k with
    | zero =>
      intro i hi
      show B_X10_ledBy_5 _ _ _ _ _ _
      unfold B_X10_ledBy_5
      rw [nI_clamp (by omega), m.S.wl s hs]
      have : i = A.S.wl s := by omega
      subst this
      exact ⟨vp_in_nI hs (by omega), br_t (by simp (disch := omega) only [fa_lit, nI_add, pk_mul, nI_ltI, nI_leI, nI_eq] <;> omega) hq⟩
    | succ k ih =>
      intro i hi
      show B_X10_ledBy_5 _ _ _ _ _ _
      unfold B_X10_ledBy_5
      rw [nI_clamp (by omega), m.S.wl s hs]
      have ok := o.S.ok s hs i (by omega)
      have hi2 := (effN_pk o.S hs i (by omega)).lt h7 hp
      rw [show (200 : Int32) * nI s + nI i = nI (200 * s + i) by rw [show (200 : Int32) = nI 200 from rfl, pk_mul, nI_add], nI_clamp (by omega), m.S.wd s hs i (by omega), show (8 : Int32) * nI (A.S.wd s i) + nI (imgN (effN A.S s i) p + 1) = nI (8 * A.S.wd s i + (imgN (effN A.S s i) p + 1)) by rw [show (8 : Int32) = nI 8 from rfl, pk_mul, nI_add], nI_clamp (by omega), m.S.ef _ ok.1 ok.2 _ hi2, nI_1]
      refine ⟨vp_in_nI hs (by omega), br_f (by simp (disch := omega) only [fa_lit, nI_add, pk_mul, nI_ltI, nI_leI, nI_eq] <;> omega) ⟨vp_in_nI (by omega) (by omega), vp_in_nI (by omega) (by omega), ?_⟩⟩
      have := ih (i + 1) (by omega)
      rw [show imgN (effN A.S s (i + 1)) p = imgN (A.S.ef (A.S.wd s i)) (imgN (effN A.S s i) p) from img_cmp (by omega)] at this
      exact this
  refine ⟨A.S.wl s + 1, ?_⟩
  have := key (A.S.wl s) 0 (by omega)
  rw [show imgN (effN A.S s 0) p = p from img_id p (by omega)] at this
  exact this
/-- k steps -/
def itN (x p : Nat) : Nat → Nat
  | 0 => p
  | k + 1 => imgN x (itN x p k)
theorem it_add (x p a : Nat) : ∀ b, itN x p (a + b) = itN x (itN x p a) b
  | 0 => rfl
  | b + 1 => by show imgN x (itN x p (a + b)) = _; rw [it_add x p a b]; rfl
theorem it_lt {n x p : Nat} (h : isPk n x) (h7 : n ≤ 7) (hp : p < n) : ∀ k, itN x p k < n
  | 0 => hp
  | k + 1 => h.lt h7 (it_lt h h7 hp k)
def cycL (x p : Nat) : Nat := cycN x p 7 (imgN x p) 1
theorem cyc_gen {x p : Nat} : ∀ k len, len + k = 7 → 1 ≤ len → cycEnd x p k (itN x p len) = true → (∀ j, 0 < j → j < len → itN x p j ≠ p) → len ≤ cycN x p (k + 1) (itN x p len) len ∧ cycN x p (k + 1) (itN x p len) len ≤ 7 ∧ itN x p (cycN x p (k + 1) (itN x p len) len) = p ∧ ∀ j, 0 < j → j < cycN x p (k + 1) (itN x p len) len → itN x p j ≠ p
  | 0, len, h1, h2, he, hm => by
    have e : itN x p len = p := by simpa [cycEnd] using he
    have ec : cycN x p 1 (itN x p len) len = len := by simp only [cycN]; rw [if_pos e]
    rw [ec]; exact ⟨Nat.le_refl _, by omega, e, hm⟩
  | k + 1, len, h1, h2, he, hm => by
    by_cases e : itN x p len = p
    · have ec : cycN x p (k + 1 + 1) (itN x p len) len = len := by rw [cycN, if_pos e]
      rw [ec]; exact ⟨Nat.le_refl _, by omega, e, hm⟩
    · have ec : cycN x p (k + 1 + 1) (itN x p len) len = cycN x p (k + 1) (itN x p (len + 1)) (len + 1) := by rw [cycN, if_neg e, if_neg (by omega)]; rfl
      have he2 : cycEnd x p k (itN x p (len + 1)) = true := by
        rw [cycEnd, Bool.or_eq_true, beq_iff_eq] at he
        exact he.resolve_left e
      have := cyc_gen k (len + 1) (by omega) (by omega) he2 (fun j hj hl => by
        by_cases e2 : j = len
        · rw [e2]; exact e
        · exact hm j hj (by omega))
      rw [ec]; exact ⟨by omega, this.2⟩
theorem cyc_end {x : Nat} (h : isPk 7 x) {p : Nat} (hp : p < 7) : cycEnd x p 6 (imgN x p) = true := by
  have := all7_ok prCyc_all h
  rw [prCyc, List.all_eq_true] at this
  exact this p (List.mem_range.mpr hp)
theorem cyc_all {x : Nat} (h : isPk 7 x) {p : Nat} (hp : p < 7) : 1 ≤ cycL x p ∧ cycL x p ≤ 7 ∧ itN x p (cycL x p) = p ∧ ∀ j, 0 < j → j < cycL x p → itN x p j ≠ p :=
  cyc_gen 6 1 rfl (by omega) (cyc_end h hp) (fun j h1 h2 => absurd h2 (by omega))
theorem it_mul {x p c : Nat} (h : itN x p c = p) : ∀ b, itN x p (c * b) = p
  | 0 => rfl
  | b + 1 => by rw [Nat.mul_succ, it_add, it_mul h b, h]
theorem it_mod {x p c : Nat} (h : itN x p c = p) (t : Nat) : itN x p t = itN x p (t % c) := by
  have e : t = c * (t / c) + t % c := (Nat.div_add_mod t c).symm
  rw [show itN x p t = itN x p (c * (t / c) + t % c) by rw [← e], it_add, it_mul h]
theorem cyc_iff {x : Nat} (h : isPk 7 x) {p : Nat} (hp : p < 7) (t : Nat) : itN x p t = p ↔ t % cycL x p = 0 := by
  have hc := cyc_all h hp
  rw [it_mod hc.2.2.1]
  have hl := Nat.mod_lt t hc.1
  constructor
  · intro e
    by_cases h0 : t % cycL x p = 0
    · exact h0
    · exact absurd e (hc.2.2.2 _ (by omega) hl)
  · intro e; rw [e]; rfl
theorem m_cycleOf {A : Abs} (o : okA A) {σ : Dz} (m : MI A σ) {s p : Nat} (hs : s < 4) (hp : p < A.n) {post : Int32 → Prop} (hq : post (nI (cycL (effW A.S s) p))) : P_X10_cycleOf σ (nI s) (nI (p + 1)) post := by
  unfold P_X10_cycleOf
  have h7 := o.n2
  have hk := effW_pk o.S hs
  refine m_ledBy o m hs hp ⟨7, ?_⟩
  have key : ∀ k a len, len + k = 7 → 1 ≤ len → a < A.n → cycEnd (effW A.S s) p k a = true → post (nI (cycN (effW A.S s) p (k + 1) a len)) → L_X10_cycleOf_10 σ post (k + 1) (nI s) (nI (p + 1)) (nI len) (nI (a + 1)) := by
    intro k
    induction k with
    | zero =>
      intro a len h1 h2 ha he hq
      show B_X10_cycleOf_10 _ _ _ _ _ _ _
      unfold B_X10_cycleOf_10
      have e : a = p := by simpa [cycEnd] using he
      rw [cycN, if_pos e] at hq
      exact br_t (by rw [e]) hq
    | succ k ih =>
      intro a len h1 h2 ha he hq
      show B_X10_cycleOf_10 _ _ _ _ _ _ _
      unfold B_X10_cycleOf_10
      by_cases e : a = p
      · rw [cycN, if_pos e] at hq
        exact br_t (by rw [e]) hq
      · rw [cycN, if_neg e, if_neg (by omega)] at hq
        refine br_f (by simp (disch := omega) only [fa_lit, nI_add, pk_mul, nI_ltI, nI_leI, nI_eq] <;> omega) (m_ledBy o m hs ha ?_)
        rw [nI_1]
        refine ih _ _ (by omega) (by omega) (hk.lt h7 ha) ?_ hq
        rw [cycEnd, Bool.or_eq_true, beq_iff_eq] at he
        exact he.resolve_left e
  exact key 6 _ 1 rfl (by omega) (hk.lt h7 hp) (cyc_end hk.seven (by omega)) hq
theorem cs_cycleLength {L : Nat} {xs : Nat → Int32} {rc : Dz → Int32 → Prop} {σ : Dz} {y5 : Int32} (h1 : vp_in (y5 + 1) L) (h2 : vp_in (y5 + 2) L) (hI : Inv σ) (hr : ∀ σ', Inv σ' → rc σ' (y5 + 4)) : B_L_law_1010 L xs rc σ y5 := by
  unfold B_L_law_1010 P_L_cycleLength P_X9_cycleLength P_X10_cycleLength
  refine ⟨h1, h2, ?_⟩
  generalize xs (y5 + 1).toNatClampNeg = x
  generalize xs (y5 + 2).toNatClampNeg = z
  obtain ⟨A, o, c, m⟩ := hI
  have h7 := o.n2
  rcases slots x with ⟨s, hs, rfl⟩ | ⟨hc, hm⟩
  · refine slot_c hs ?_
    rcases places_ z o with ⟨p, hp, rfl⟩ | hb
    · refine pos_c o c hp (q_effectOfWord o c hs ?_)
      rw [show nI (p + 1) - 1 = nI p from pm_s p]
      refine q_cycleOf (by have := (effW_pk o.S hs).1; omega) (by omega) ⟨h1, h2, slot_m hs (br_f (by decide) (pos_m o (m.sl _ _) hp (br_f (by decide) (m_cycleOf o (m.sl _ _) hs hp ?_))))⟩
      exact good_i o c m hr
    · exact (hb σ).1 c _ _ ⟨rfl, h1, h2, slot_m hs (br_f (by decide) ((hb σ).2 m _ (br_t rfl (bad_i o c m (by decide) hr))))⟩
  · exact hc _ _ ⟨rfl, h1, h2, hm _ (br_t rfl (bad_i o c m (by decide) hr))⟩
/-! order -/
theorem ord_id {x : Nat} (h : isPk 7 x) {w t : Nat} (hw : w < 2097152) (hi : ∀ p, p < 7 → imgN w p = itN x p t) : w = 1754760 ↔ ∀ p, p < 7 → t % cycL x p = 0 := by
  constructor
  · intro e p hp
    rw [← cyc_iff h hp, ← hi p hp, e]; exact img_id p hp
  · intro e
    refine q_ext hw (by decide) fun p hp => ?_
    rw [hi p hp, img_id p hp]; exact (cyc_iff h hp t).mpr (e p hp)
theorem cyc_fix {n x p : Nat} (h : isPk n x) (hn : n ≤ p) (hp : p < 7) : cycL x p = 1 := by
  have e := h.2.2.2 p hp hn
  have hc := cyc_all h.seven hp
  by_cases h1 : cycL x p = 1
  · exact h1
  · exact absurd e (hc.2.2.2 1 (by omega) (by omega))
theorem m_order {A : Abs} (o : okA A) {σ : Dz} (m : MI A σ) {s : Nat} (hs : s < 4) {post : Int32 → Dz → Prop} (hq : post (nI (ordN (effW A.S s) 12 1 (effW A.S s))) (sz_i σ 43 0 0)) : P_X10_order σ (nI s) post := by
  unfold P_X10_order
  have h7 := o.n2
  have hk := effW_pk o.S hs
  refine slot_m hs (bn_f (by decide) ?_)
  generalize ex : effW A.S s = x at hk hq
  have inner : ∀ (rc_17 : Dz → Int32 → Int32 → Int32 → Prop) t, t < 100 → effW A.S s = x → ∀ k i (b : Bool), i + k = A.n → (b = true ↔ ∀ p, p < i → t % cycL x p = 0) → ((∀ p, p < A.n → t % cycL x p = 0) → rc_17 σ (nI s) (nI t) 1) → ((¬ ∀ p, p < A.n → t % cycL x p = 0) → rc_17 σ (nI s) (nI (t + 1)) 0) → L_X10_order_26 post rc_17 (k + 1) σ (nI s) (nI t) (if b then 1 else 0) (nI (i + 1)) := by
    intro rc_17 t ht ex k
    induction k with
    | zero =>
      intro i b hi hb hg hn
      show B_X10_order_26 _ _ _ _ _ _ _ _
      unfold B_X10_order_26 B_X10_order_73
      rw [m.n]
      have : i = A.n := by omega
      subst this
      refine br_t (by simp (disch := omega) only [fa_lit, nI_add, pk_mul, nI_ltI, nI_leI, nI_eq] <;> omega) ?_
      cases b with
      | true =>
        have := hg (hb.mp rfl)
        refine br_f (by decide) ?_
        rw [show nI t + 0 = nI t from nI_add t 0]; exact this
      | false =>
        have := hn (fun h => by have := hb.mpr h; cases this)
        refine br_t rfl ?_
        rw [nI_1]; exact this
    | succ k ih =>
      intro i b hi hb hg hn
      show B_X10_order_26 _ _ _ _ _ _ _ _
      unfold B_X10_order_26 B_X10_order_55 B_X10_order_56
      rw [m.n]
      refine br_f (by simp (disch := omega) only [fa_lit, nI_add, pk_mul, nI_ltI, nI_leI, nI_eq] <;> omega) ?_
      cases b with
      | false =>
        refine br_t rfl ?_
        rw [nI_1]
        refine ih (i + 1) false (by omega) ⟨fun h => (by cases h), fun h => hb.mpr fun p hp => h p (by omega)⟩ hg hn
      | true =>
        refine br_f (by decide) (m_cycleOf o m hs (by omega) ?_)
        rw [ex]
        have hc := cyc_all hk.seven (show i < 7 by omega)
        rw [pk_rem (by omega) (by omega) (by omega), nI_1]
        have hm := Nat.mod_lt t hc.1
        refine ⟨(by simp (disch := omega) only [fa_lit, nI_add, pk_mul, nI_ltI, nI_leI, nI_eq] <;> omega), ?_⟩
        by_cases hz : t % cycL x i = 0
        · refine bn_t (by rw [hz]; rfl) (ih (i + 1) true (by omega) ⟨fun _ p hp => ?_, fun _ => rfl⟩ hg hn)
          by_cases e : p = i
          · rw [e]; exact hz
          · exact hb.mp rfl p (by omega)
        · refine bn_f (by simp (disch := omega) only [fa_lit, nI_add, pk_mul, nI_ltI, nI_leI, nI_eq] <;> omega) (ih (i + 1) false (by omega) ⟨fun h => (by cases h), fun h => absurd (h i (by omega)) hz⟩ hg hn)
  have outer : effW A.S s = x → ∀ k t w, t + k = 12 → 1 ≤ t → w < 2097152 → (∀ p, p < 7 → imgN w p = itN x p t) → ordEnd x k w = true → post (nI (ordN x (k + 1) t w)) (sz_i σ 43 0 0) → L_X10_order_17 post (k + 2) σ (nI s) (nI t) 0 := by
    intro ex k
    induction k with
    | zero =>
      intro t w h1 h2 hw hi he hq
      show B_X10_order_17 _ _ _ _ _ _
      unfold B_X10_order_17
      have e : w = 1754760 := by simpa [ordEnd] using he
      rw [ordN, if_pos e] at hq
      have hall := (ord_id hk.seven hw hi).mp e
      refine bn_t rfl ⟨A.n + 1, inner _ t (by omega) ex A.n 0 true (by omega) ⟨fun _ p hp => absurd hp (by omega), fun _ => rfl⟩ (fun _ => ?_) (fun h => absurd (fun p hp => hall p (by omega)) h)⟩
      show B_X10_order_17 _ _ _ _ _ _
      unfold B_X10_order_17
      exact bn_f (by decide) hq
    | succ k ih =>
      intro t w h1 h2 hw hi he hq
      show B_X10_order_17 _ _ _ _ _ _
      unfold B_X10_order_17
      refine bn_t rfl ⟨A.n + 1, inner _ t (by omega) ex A.n 0 true (by omega) ⟨fun _ p hp => absurd hp (by omega), fun _ => rfl⟩ (fun hall => ?_) (fun h => ?_)⟩
      · have e : w = 1754760 := (ord_id hk.seven hw hi).mpr fun p hp => by
          by_cases hpn : p < A.n
          · exact hall p hpn
          · rw [cyc_fix hk (by omega) hp]; exact Nat.mod_one t
        rw [ordN, if_pos e] at hq
        show B_X10_order_17 _ _ _ _ _ _
        unfold B_X10_order_17
        exact bn_f (by decide) hq
      · have e : ¬ w = 1754760 := fun e => h fun p hp => (ord_id hk.seven hw hi).mp e p (by omega)
        rw [ordN, if_neg e, if_neg (by omega)] at hq
        rw [ordEnd, Bool.or_eq_true, beq_iff_eq] at he
        refine ih (t + 1) (cmp w x) (by omega) (by omega) (cmp_lt w x) (fun p hp => ?_) (he.resolve_left e) hq
        rw [img_cmp hp, hi p hp]; rfl
  exact ⟨13, outer ex 11 1 x rfl (by omega) hk.1 (fun _ _ => rfl) (all7_ok ordEnd_all hk.seven) hq⟩
theorem cs_order {L : Nat} {xs : Nat → Int32} {rc : Dz → Int32 → Prop} {σ : Dz} {y5 : Int32} (h1 : vp_in (y5 + 1) L) (hI : Inv σ) (hr : ∀ σ', Inv σ' → rc σ' (y5 + 4)) : B_L_law_891 L xs rc σ y5 := by
  unfold B_L_law_891 P_L_order P_X9_order
  refine ⟨h1, ?_⟩
  generalize xs (y5 + 1).toNatClampNeg = x
  obtain ⟨A, o, c, m⟩ := hI
  rcases slots x with ⟨s, hs, rfl⟩ | ⟨hc, hm⟩
  · refine slot_c hs (q_effectOfWord o c hs (q_orderOf (effW_pk o.S hs).1 ⟨h1, m_order o (m.sl _ _) hs ?_⟩))
    exact good_i o c m hr
  · exact hc _ _ ⟨rfl, h1, hm _ (bn_t rfl (bad_i o c m (by decide) hr))⟩
/-! isSame -/
theorem tl_b {τ : Dz} {k b : Int32} {rc : Prop} (h1 : gz_i τ 43 0 = k) (h2 : k = 0 → b = 0 ∧ gz_l τ 66 0 = 0 ∨ b ≠ 0 ∧ gz_l τ 66 0 = 1) (h : rc) : P_X10_thrown τ (fun (r973 : Int32) => ((r973 = k → ((¬ k = 0 → rc) ∧ (k = 0 → ((b = 0 → (((lg_cmp (gz_l τ 66 ((0 : Int32)).toNatClampNeg) (0 : Int64)) = 0 → rc) ∧ (¬ (lg_cmp (gz_l τ 66 ((0 : Int32)).toNatClampNeg) (0 : Int64)) = 0 → False))) ∧ (¬ b = 0 → (((lg_cmp (gz_l τ 66 ((0 : Int32)).toNatClampNeg) (1 : Int64)) = 0 → rc) ∧ (¬ (lg_cmp (gz_l τ 66 ((0 : Int32)).toNatClampNeg) (1 : Int64)) = 0 → False))))))) ∧ (¬ r973 = k → False))) := by
  unfold P_X10_thrown
  refine ⟨fun _ => ⟨fun _ => h, fun hk => ?_⟩, fun hn => hn h1⟩
  rw [show ((0 : Int32)).toNatClampNeg = 0 from rfl]
  rcases h2 hk with ⟨e, g⟩ | ⟨e, g⟩
  · rw [g]; exact ⟨fun _ => ⟨fun _ => h, fun hn => hn (by decide)⟩, fun hn => absurd e hn⟩
  · rw [g]; exact ⟨fun z => absurd z e, fun _ => ⟨fun _ => h, fun hn => hn (by decide)⟩⟩
theorem bad_b {A : Abs} {σ : Dz} (o : okA A) (c : CI A σ) (m : MI A σ) {k b y : Int32} (hk : k ≠ 0) {rc : Dz → Int32 → Prop} (hr : ∀ σ', Inv σ' → rc σ' y) : P_X10_thrown (sz_i σ 43 0 k) (fun (r973 : Int32) => ((r973 = k → ((¬ k = 0 → rc (sz_i σ 43 0 k) y) ∧ (k = 0 → ((b = 0 → (((lg_cmp (gz_l (sz_i σ 43 0 k) 66 ((0 : Int32)).toNatClampNeg) (0 : Int64)) = 0 → rc (sz_i σ 43 0 k) y) ∧ (¬ (lg_cmp (gz_l (sz_i σ 43 0 k) 66 ((0 : Int32)).toNatClampNeg) (0 : Int64)) = 0 → False))) ∧ (¬ b = 0 → (((lg_cmp (gz_l (sz_i σ 43 0 k) 66 ((0 : Int32)).toNatClampNeg) (1 : Int64)) = 0 → rc (sz_i σ 43 0 k) y) ∧ (¬ (lg_cmp (gz_l (sz_i σ 43 0 k) 66 ((0 : Int32)).toNatClampNeg) (1 : Int64)) = 0 → False))))))) ∧ (¬ r973 = k → False))) :=
  tl_b (gi_same _ _ _ _) (fun h => absurd h hk) (hr _ ⟨A, o, c.byM ((eo_r 43 66 σ).si (by omega) (by omega) _ _), m.thr _⟩)
theorem cs_isSame {L : Nat} {xs : Nat → Int32} {rc : Dz → Int32 → Prop} {σ : Dz} {y5 : Int32} (h1 : vp_in (y5 + 1) L) (h2 : vp_in (y5 + 2) L) (hI : Inv σ) (hr : ∀ σ', Inv σ' → rc σ' (y5 + 4)) : B_L_law_1078 L xs rc σ y5 := by
  unfold B_L_law_1078 P_L_isSame P_X9_isSame P_X10_isSame
  refine ⟨h1, h2, ?_⟩
  generalize xs (y5 + 1).toNatClampNeg = x
  generalize xs (y5 + 2).toNatClampNeg = z
  obtain ⟨A, o, c, m⟩ := hI
  have h7 := o.n2
  rcases slots x with ⟨s, hs, rfl⟩ | ⟨hc, hm⟩
  · refine slot_c hs ?_
    rcases slots z with ⟨u, hu, rfl⟩ | ⟨hc, hm⟩
    · refine slot_c hu (q_effectOfWord o c hs (q_effectOfWord o c hu ?_))
      have ks := effW_pk o.S hs
      have ku := effW_pk o.S hu
      have mod : ∀ τ (post : Int32 → Dz → Prop), MI A τ → post (if effW A.S s = effW A.S u then 1 else 0) (sz_i τ 43 0 0) → P_X10_isSlot (nI s) (fun (r1 : Int32) => ((r1 = 0 → (P_X10_not τ (1 : Int32) (fun (r16 : Int32) (τ16 : Dz) => ((r16 = 0 ∨ r16 = 1) ∧ post r16 τ16)))) ∧ (¬ r1 = 0 → (P_X10_isSlot (nI u) (fun (r8 : Int32) => ((¬ r8 = 0 → (∃ n, L_X10_isSame_25 post n τ (nI s) (nI u) (1 : Int32) (1 : Int32))) ∧ (r8 = 0 → (P_X10_not τ (1 : Int32) (fun (r16 : Int32) (τ16 : Dz) => ((r16 = 0 ∨ r16 = 1) ∧ post r16 τ16)))))))))) := by
        intro τ post mt hp
        refine slot_m hs (br_f (by decide) (slot_m hu (bn_f (by decide) ?_)))
        have key : ∀ k i (b : Bool), i + k = A.n → (b = true ↔ ∀ p, p < i → imgN (effW A.S s) p = imgN (effW A.S u) p) → L_X10_isSame_25 post (k + 1) τ (nI s) (nI u) (if b then 1 else 0) (nI (i + 1)) := by
          intro k
          induction k with
          | zero =>
            intro i b hi hb
            show B_X10_isSame_25 _ _ _ _ _ _ _
            unfold B_X10_isSame_25 P_X10_so
            rw [mt.n]
            have : i = A.n := by omega
            subst this
            refine br_t (by simp (disch := omega) only [fa_lit, nI_add, pk_mul, nI_ltI, nI_leI, nI_eq] <;> omega) ?_
            have hbe : (if effW A.S s = effW A.S u then (1 : Int32) else 0) = if b then 1 else 0 := by
              by_cases e : effW A.S s = effW A.S u
              · rw [if_pos e, if_pos (hb.mpr fun p _ => by rw [e])]
              · rw [if_neg e, if_neg]
                intro hbt
                refine e (q_ext ks.1 ku.1 fun p hp => ?_)
                by_cases hpn : p < A.n
                · exact hb.mp hbt p hpn
                · rw [ks.2.2.2 p hp (by omega), ku.2.2.2 p hp (by omega)]
            rw [hbe] at hp
            have h01 : (if b then (1 : Int32) else 0) = 0 ∨ (if b then (1 : Int32) else 0) = 1 := by cases b <;> simp
            exact ⟨h01, h01, hp⟩
          | succ k ih =>
            intro i b hi hb
            show B_X10_isSame_25 _ _ _ _ _ _ _
            unfold B_X10_isSame_25 B_X10_isSame_59 B_X10_isSame_60
            rw [mt.n]
            refine br_f (by simp (disch := omega) only [fa_lit, nI_add, pk_mul, nI_ltI, nI_leI, nI_eq] <;> omega) ?_
            cases b with
            | false =>
              refine br_t rfl ?_
              rw [nI_1]
              exact ih (i + 1) false (by omega) ⟨fun h => (by cases h), fun h => hb.mpr fun p hp => h p (by omega)⟩
            | true =>
              refine br_f (by decide) (m_ledBy o mt hs (by omega) (m_ledBy o mt hu (by omega) ?_))
              rw [nI_1]
              have l1 := imgN_lt (effW A.S s) i
              have l2 := imgN_lt (effW A.S u) i
              by_cases e : imgN (effW A.S s) i = imgN (effW A.S u) i
              · refine bn_t (by rw [e]) (ih (i + 1) true (by omega) ⟨fun _ p hp => ?_, fun _ => rfl⟩)
                by_cases e2 : p = i
                · rw [e2]; exact e
                · exact hb.mp rfl p (by omega)
              · exact bn_f (by simp (disch := omega) only [fa_lit, nI_add, pk_mul, nI_ltI, nI_leI, nI_eq] <;> omega) (ih (i + 1) false (by omega) ⟨fun h => (by cases h), fun h => absurd (h i (by omega)) e⟩)
        exact ⟨A.n + 1, key A.n 0 true (by omega) ⟨fun _ p hp => absurd hp (by omega), fun _ => rfl⟩⟩
      have l1 := ks.1
      have l2 := ku.1
      by_cases e : effW A.S s = effW A.S u
      · refine bn_t (by rw [e]) (br_f (by decide) ⟨h1, h2, mod _ _ (m.sl _ _) ?_⟩)
        rw [if_pos e]
        exact tl_b (gi_same _ _ _ _) (fun _ => Or.inr ⟨by decide, gl_same _ _ _ _⟩) (hr _ ⟨A, o, (c.sl _ _).byM ((eo_r 43 66 _).si (by omega) (by omega) _ _), (m.sl _ _).thr _⟩)
      · refine bn_f (by simp (disch := omega) only [fa_lit, nI_add, pk_mul, nI_ltI, nI_leI, nI_eq] <;> omega) (br_t rfl ⟨h1, h2, mod _ _ (m.sl _ _) ?_⟩)
        rw [if_neg e]
        exact tl_b (gi_same _ _ _ _) (fun _ => Or.inl ⟨rfl, gl_same _ _ _ _⟩) (hr _ ⟨A, o, (c.sl _ _).byM ((eo_r 43 66 _).si (by omega) (by omega) _ _), (m.sl _ _).thr _⟩)
    · exact hc _ _ ⟨rfl, h1, h2, slot_m hs (br_f (by decide) (hm _ (bn_t rfl ⟨Or.inl rfl, bad_b o c m (by decide) hr⟩)))⟩
  · exact hc _ _ ⟨rfl, h1, h2, hm _ (br_t rfl ⟨Or.inl rfl, bad_b o c m (by decide) hr⟩)⟩
end QEffects
