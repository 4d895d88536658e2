/-! exchange, snapshot, restore -/
section QExchange
def setN (x i v : Nat) : Nat := (x &&& ((7 * 8 ^ i) ^^^ 4294967295)) ||| (v * 8 ^ i)
theorem q_withImage {x i v : Nat} (hi : i < 7) (hv : v < 8) {post : Int32 → Prop} (hp : post (nI (setN x i v))) : P_X3_withImage (nI x) (nI i) (nI v) post := by
  unfold P_X3_withImage
  have h8 := q_pow8 (show i ≤ 7 by omega)
  have h7 : 7 * 8 ^ i < 4294967296 := by
    have : 7 * 8 ^ i ≤ 7 * 2097152 := Nat.mul_le_mul_left _ h8
    omega
  have hv8 : v * 8 ^ i < 4294967296 := by
    have : v * 8 ^ i ≤ 7 * 2097152 := Nat.mul_le_mul (by omega) h8
    omega
  rw [show (3 : Int32) * nI i = nI (3 * i) by rw [show (3 : Int32) = nI 3 from rfl, pk_mul], show (7 : Int32) = nI 7 from rfl, q_shl (by omega) (by rw [q_p8]; exact h7), q_shl (by omega) (by rw [q_p8]; exact hv8), q_p8, show (-1 : Int32) = nI 4294967295 by decide, fb_xorI, fa_and, fa_or]
  exact hp
set_option maxRecDepth 100000 in
theorem set_mask : ∀ i, i < 7 → ∀ k, k < 21 → ((7 * 8 ^ i) ^^^ 4294967295).testBit k = !decide (3 * i ≤ k ∧ k < 3 * i + 3) := by decide
theorem img_bit (z j b : Nat) : (imgN z j).testBit b = (decide (b < 3) && z.testBit (b + 3 * j)) := by
  unfold imgN
  rw [← q_p8, show (8 : Nat) = 2 ^ 3 from rfl, Nat.testBit_mod_two_pow, Nat.testBit_div_two_pow]
theorem set_lt {x i v : Nat} (hx : x < 2097152) (hi : i < 7) (hv : v < 8) : setN x i v < 2097152 := by
  have h8 : 8 ^ i ≤ 8 ^ 6 := Nat.pow_le_pow_right (by omega) (by omega)
  have hv8 : v * 8 ^ i ≤ 7 * 8 ^ 6 := Nat.mul_le_mul (by omega) h8
  refine Nat.or_lt_two_pow (n := 21) ?_ (by omega)
  rw [Nat.and_comm]
  exact Nat.and_lt_two_pow _ hx
theorem img_set {x i v j : Nat} (hi : i < 7) (hv : v < 8) (hj : j < 7) : imgN (setN x i v) j = if j = i then v else imgN x j := by
  apply Nat.eq_of_testBit_eq
  intro b
  rw [img_bit]
  by_cases hb : b < 3
  · rw [decide_eq_true hb, Bool.true_and]
    unfold setN
    rw [Nat.testBit_or, Nat.testBit_and, set_mask i hi (b + 3 * j) (by omega), ← q_p8, Nat.testBit_mul_two_pow]
    by_cases he : j = i
    · subst he
      rw [if_pos rfl, decide_eq_true (show 3 * j ≤ b + 3 * j ∧ b + 3 * j < 3 * j + 3 by omega), decide_eq_true (show 3 * j ≤ b + 3 * j by omega), show b + 3 * j - 3 * j = b by omega]
      simp
    · rw [if_neg he, img_bit, decide_eq_true hb, decide_eq_false (show ¬ (3 * i ≤ b + 3 * j ∧ b + 3 * j < 3 * i + 3) by omega)]
      by_cases hl : 3 * i ≤ b + 3 * j
      · have hz : v.testBit (b + 3 * j - 3 * i) = false := by
          apply Nat.testBit_lt_two_pow
          have : 2 ^ 3 ≤ 2 ^ (b + 3 * j - 3 * i) := Nat.pow_le_pow_right (by omega) (by omega)
          omega
        rw [hz]; simp
      · rw [decide_eq_false hl]; simp
  · rw [decide_eq_false hb, Bool.false_and]
    split
    · symm
      apply Nat.testBit_lt_two_pow
      have : 2 ^ 3 ≤ 2 ^ b := Nat.pow_le_pow_right (by omega) (by omega)
      omega
    · rw [img_bit, decide_eq_false hb, Bool.false_and]
theorem iv_of {n x a p : Nat} (hx : isPk n x) (ha : a < 7) (h : imgN x a = p) : imgN (ivN x) p = a := by rw [← h]; exact (iv_all hx ha).1
/-- a and b change places -/
def swpN (a b : Nat) : Nat := setN (setN 1754760 a b) b a
theorem img_swp {a b j : Nat} (ha : a < 7) (hb : b < 7) (hj : j < 7) : imgN (swpN a b) j = if j = b then a else if j = a then b else j := by
  unfold swpN
  rw [img_set hb (by omega) hj, img_set ha (by omega) hj, img_id j hj]
theorem swp_pk {n a b : Nat} (hn : n ≤ 7) (ha : a < n) (hb : b < n) : isPk n (swpN a b) := by
  refine ⟨set_lt (set_lt (by decide) (by omega) (by omega)) (by omega) (by omega), fun i hi => ?_, fun i j hi hj e => ?_, fun i hi h => ?_⟩
  · rw [img_swp (by omega) (by omega) hi]; split
    · omega
    · split <;> omega
  · rw [img_swp (by omega) (by omega) hi, img_swp (by omega) (by omega) hj] at e
    repeat' split at e
    all_goals omega
  · rw [img_swp (by omega) (by omega) hi, if_neg (by omega), if_neg (by omega)]
theorem swp_swp {a b j : Nat} (ha : a < 7) (hb : b < 7) (hj : j < 7) : imgN (swpN a b) (imgN (swpN a b) j) = j := by
  have h := img_swp ha hb hj
  by_cases h1 : j = b
  · rw [if_pos h1] at h
    rw [h, img_swp ha hb ha]; split
    · omega
    · rw [if_pos rfl]; omega
  · rw [if_neg h1] at h
    by_cases h2 : j = a
    · rw [if_pos h2] at h
      rw [h, img_swp ha hb hb, if_pos rfl]; omega
    · rw [if_neg h2] at h
      rw [h, h]
def setPl (S : Sit) (x : Nat) : Sit := (S.df, S.ef, S.wl, S.wd, x)
theorem okA.setPl {A : Abs} (o : okA A) {x : Nat} (hx : isPk A.n x) : okA (withS A (setPl A.S x)) := ⟨o.n1, o.n2, ⟨o.S.pk, o.S.un, o.S.iv, o.S.le, o.S.ok, hx⟩, o.tl, o.tx, o.er, o.sv, o.fl, o.db⟩
theorem CI.setPl {A : Abs} {σ : Dz} (c : CI A σ) (x : Nat) : CI (withS A (setPl A.S x)) (sz_i σ 17 3 (nI x)) := by
  have row : ∀ k j, k ≠ 17 → gz_i (sz_i σ 17 3 (nI x)) k j = gz_i σ k j := fun k j h => gi_cell h
  refine ⟨by rw [row _ _ (by omega)]; exact c.n, by rw [row _ _ (by omega)]; exact c.er, by rw [row _ _ (by omega)]; exact c.hs, ⟨?_, gi_same _ _ _ _, fun l hl => by rw [row _ _ (by omega)]; exact c.S.ef l hl, fun s hs => by rw [row _ _ (by omega)]; exact c.S.wl s hs, fun s hs i hi => by rw [row _ _ (by omega)]; exact c.S.wd s hs i hi⟩, fun s h => (c.sv s h).keep fun k _ _ j => row k j (by omega), by rw [row _ _ (by omega)]; exact c.tl, fun i hi => by rw [row _ _ (by omega)]; exact c.tx i hi, c.fl, c.db, ?_⟩
  · obtain ⟨M, h1, h2, h3⟩ := c.S.df
    exact ⟨M, h1, by rw [gi_pl (by omega)]; exact h2, h3⟩
  · rw [row _ _ (by omega)]
    exact c.tb.imp (fun t => ⟨t.1, by rw [row _ _ (by omega)]; exact t.2⟩) fun t => ⟨t.1, t.2.keep fun k _ _ j => row k j (by omega)⟩
theorem MI.setPl {A : Abs} {σ σ' : Dz} (m : MI A σ) {x : Nat} (e : eqS 44 45 σ σ') (ht : ∀ p, p < A.n → gz_i σ' 44 (p + 1) = nI (imgN (ivN x) p + 1)) : MI (withS A (setPl A.S x)) σ' := by
  refine ⟨by rw [e.m (by omega)]; exact m.n, by rw [e.m (by omega)]; exact m.er, by rw [e.m (by omega)]; exact m.hs, ⟨ht, fun q hq => by rw [e.i (by omega)]; exact m.S.df q hq, fun l hl hd p hp => by rw [e.i (by omega)]; exact m.S.ef l hl hd p hp, fun s hs => by rw [e.i (by omega)]; exact m.S.wl s hs, fun s hs i hi => by rw [e.i (by omega)]; exact m.S.wd s hs i hi⟩, fun s' h => (m.sv s' h).keep fun k _ _ j => e.i (by omega) j, by rw [e.m (by omega)]; exact m.tl, fun i hi => by rw [e.i (by omega)]; exact m.tx i hi, fun j hj => by rw [e.f (by omega)]; exact m.fl j hj, fun j hj => by rw [e.d (by omega)]; exact m.db j hj, ?_⟩
  rw [e.m (by omega)]
  exact m.tb.imp id fun t => ⟨t.1, t.2.keep (e.m (by omega)) (e.m (by omega)) (fun j => e.i (by omega) j) (fun j => e.i (by omega) j)⟩
theorem cs_exchange {L : Nat} {xs : Nat → Int32} {rc : Dz → Int32 → Prop} {σ : Dz} {y5 : Int32} (h1 : vp_in (y5 + 1) L) (h2 : vp_in (y5 + 2) L) (hI : Inv σ) (hr : ∀ σ', Inv σ' → rc σ' (y5 + 4)) : B_L_law_1221 L xs rc σ y5 := by
  unfold B_L_law_1221 P_L_exchange P_X9_exchange P_X10_exchange
  refine ⟨h1, h2, ?_⟩
  generalize xs (y5 + 1).toNatClampNeg = x
  generalize xs (y5 + 2).toNatClampNeg = z
  obtain ⟨A, o, c, m⟩ := hI
  have h7 := o.n2
  rcases places_ x o with ⟨a, ha, rfl⟩ | hb
  · refine pos_c o c ha ?_
    rcases places_ z o with ⟨b, hb, rfl⟩ | hb
    · refine pos_c o c hb ?_
      rw [show nI (a + 1) - 1 = nI a from pm_s a, show nI (b + 1) - 1 = nI b from pm_s b, show (1754760 : Int32) = nI 1754760 from rfl]
      refine q_withImage (by omega) (by omega) (q_withImage (by omega) (by omega) ?_)
      show P_X4_places σ 17 _
      unfold P_X4_places
      rw [c.S.pl]
      have kp := o.S.at_
      have ks : isPk A.n (swpN a b) := swp_pk h7 ha hb
      refine q_then (by have := kp.1; omega) (by have := ks.1; show swpN a b < _; omega) ?_
      show P_X4_arrange σ 17 (nI (cmp A.S.pl (swpN a b))) _
      unfold P_X4_arrange
      have o2 := o.setPl (kp.cmp ks)
      have c2 := c.setPl (cmp A.S.pl (swpN a b))
      refine q_tokenOn o2 (gi_same _ _ _ _) (by omega) ⟨h1, h2, ?_⟩
      have tok : ∀ p, p < 7 → imgN (ivN (cmp A.S.pl (swpN a b))) p = imgN (ivN A.S.pl) (imgN (swpN a b) p) := by
        intro p hp
        have hs := ks.2.1 p hp
        refine iv_of (kp.cmp ks) (iv_all kp hs).2.2 ?_
        rw [img_cmp (iv_all kp hs).2.2, (iv_all kp hs).2.1, swp_swp (by omega) (by omega) hp]
      have e2 : eqO 0 43 σ (sz_i σ 17 3 (nI (cmp A.S.pl (swpN a b)))) := (eo_r _ _ _).si (by omega) (by omega) _ _
      have m2 := (m.byC e2).sl ((0 : Int32)).toNatClampNeg (nI (imgN (ivN (withS A (setPl A.S (cmp A.S.pl (swpN a b)))).S.pl) a + 1)).toInt64
      refine pos_m o m2 ha (br_f (by decide) (pos_m o m2 hb (bn_f (by decide) ⟨vp_in_nI (by omega) (by omega), vp_in_nI (by omega) (by omega), vp_in_nI (by omega) (by omega), vp_in_nI (by omega) (by omega), vp_in_nI (by omega) (by omega), ?_⟩)))
      rw [nI_clamp (by omega), nI_clamp (by omega), m2.S.to a ha, m2.S.to b hb]
      have tv : ∀ σ' p, p < A.n → MI A σ' → gz_i (sz_i (sz_i σ' 44 (a + 1) (nI (imgN (ivN A.S.pl) b + 1))) 44 (b + 1) (nI (imgN (ivN A.S.pl) a + 1))) 44 (p + 1) = nI (imgN (ivN (cmp A.S.pl (swpN a b))) p + 1) := by
        intro σ' p hp m'
        rw [tok p (by omega), img_swp (by omega) (by omega) (by omega)]
        by_cases e1 : p = b
        · rw [if_pos e1, e1, gi_same]
        · rw [if_neg e1, gi_pl (by omega)]
          by_cases e2 : p = a
          · rw [if_pos e2, e2, gi_same]
          · rw [if_neg e2, gi_pl (by omega)]; exact m'.S.to p hp
      rw [tv _ a ha m2]
      have e3 := (((es_r 44 45 (sz_l (sz_i σ 17 3 (nI (cmp A.S.pl (swpN a b)))) 66 ((0 : Int32)).toNatClampNeg (nI (imgN (ivN (withS A (setPl A.S (cmp A.S.pl (swpN a b)))).S.pl) a + 1)).toInt64)).si (k := 44) (by omega) (by omega) (by omega) (a + 1) (nI (imgN (ivN A.S.pl) b + 1))).si (k := 44) (by omega) (by omega) (by omega) (b + 1) (nI (imgN (ivN A.S.pl) a + 1))).s43 (j := 0) (Or.inl rfl) 0
      refine both_i (r := nI (imgN (ivN (cmp A.S.pl (swpN a b))) a + 1)) o2 c2 (m2.setPl e3 (fun p hp => ?_)) (e3.eo (by omega) (by omega)) (gi_same _ _ _ _) hr
      rw [gi_cell (by omega)]; exact tv _ p hp m2
    · exact (hb σ).1 c _ _ ⟨rfl, h1, h2, pos_m o m ha (br_f (by decide) ((hb σ).2 m _ (bn_t rfl (bad_i o c m (by decide) hr))))⟩
  · exact (hb σ).1 c _ _ ⟨rfl, h1, h2, (hb σ).2 m _ (br_t rfl (bad_i o c m (by decide) hr))⟩
/-! snapshot and restore -/
theorem q_copyS {k k1 n : Nat} {S : Sit} {σ : Dz} (ho : okSit n S) (h : CSit k1 S σ) (hk : k + 11 ≤ k1 ∨ k1 + 11 ≤ k) {post : Dz → Prop} (hp : ∀ σ', eqO k (k + 11) σ σ' → CSit k S σ' → post σ') : P_X4_copyFrom σ k k1 post := by
  unfold P_X4_copyFrom
  have key2 : ∀ q i σ', i + q = 4 → eqO k (k + 11) σ σ' → (∃ M, M < 32 ∧ gz_i σ' k 2 = nI M ∧ ∀ m, m < 5 → M.testBit m = S.df m) → gz_i σ' k 3 = nI S.pl → (∀ l, l < 10 → gz_i σ' (k + 1) l = nI (S.ef l)) → (∀ s, s < i → isWd (k + 3 + 2 * s) (S.wl s) (S.wd s) σ') → L_X4_copyFrom_44 k k1 post (q + 1) σ' (nI i) := by
    intro q
    induction q with
    | zero =>
      intro i σ' hi e t1 t2 t3 t4
      show B_X4_copyFrom_44 _ _ _ _ _ _
      unfold B_X4_copyFrom_44
      exact br_t (by simp (disch := omega) only [fa_lit, nI_add, pk_mul, nI_ltI, nI_leI, nI_eq] <;> omega) (hp σ' e ⟨t1, t2, t3, fun s hs => (t4 s (by omega)).1, fun s hs => (t4 s (by omega)).2.2⟩)
    | succ q ih =>
      intro i σ' hi e t1 t2 t3 t4
      show B_X4_copyFrom_44 _ _ _ _ _ _
      unfold B_X4_copyFrom_44
      rw [nI_clamp (by omega), nI_1]
      refine br_f (by simp (disch := omega) only [fa_lit, nI_add, pk_mul, nI_ltI, nI_leI, nI_eq] <;> omega) ⟨vp_in_nI (by omega) (by omega), vp_in_nI (by omega) (by omega), ?_⟩
      refine q_copyW ((h.word ho (s := i) (by omega)).keep fun c hc1 hc2 j => e.i (by omega) j) (by omega) fun σ2 e2 w2 => ?_
      refine ih (i + 1) σ2 (by omega) (e.tr (e2.mono (by omega) (by omega))) ?_ (by rw [e2.i (by omega)]; exact t2) (fun l hl => by rw [e2.i (by omega)]; exact t3 l hl) (fun s hs => ?_)
      · obtain ⟨M, a1, a2, a3⟩ := t1
        exact ⟨M, a1, by rw [e2.i (by omega)]; exact a2, a3⟩
      · by_cases he : s = i
        · subst he; exact w2
        · exact (t4 s (by omega)).keep fun c hc1 hc2 j => e2.i (by omega) j
  have key : ∀ q i σ', i + q = 10 → eqO k (k + 11) σ σ' → (∀ l, l < i → gz_i σ' (k + 1) l = nI (S.ef l)) → L_X4_copyFrom_2 k k1 post (q + 1) σ' (nI i) := by
    intro q
    induction q with
    | zero =>
      intro i σ' hi e t1
      show B_X4_copyFrom_2 _ _ _ _ _ _
      unfold B_X4_copyFrom_2
      refine br_t (by simp (disch := omega) only [fa_lit, nI_add, pk_mul, nI_ltI, nI_leI, nI_eq] <;> omega) ⟨5, key2 4 0 _ rfl ((e.si (by omega) (by omega) _ _).si (by omega) (by omega) _ _) ?_ ?_ (fun l hl => ?_) (fun s hs => absurd hs (by omega))⟩
      · obtain ⟨M, a1, a2, a3⟩ := h.df
        exact ⟨M, a1, by rw [gi_pl (by omega), gi_same, e.i (by omega)]; exact a2, a3⟩
      · rw [gi_same, gi_cell (by omega), e.i (by omega)]; exact h.pl
      · rw [gi_cell (by omega), gi_cell (by omega)]; exact t1 l (by omega)
    | succ q ih =>
      intro i σ' hi e t1
      show B_X4_copyFrom_2 _ _ _ _ _ _
      unfold B_X4_copyFrom_2
      rw [nI_clamp (by omega), nI_1]
      refine br_f (by simp (disch := omega) only [fa_lit, nI_add, pk_mul, nI_ltI, nI_leI, nI_eq] <;> omega) ⟨vp_in_nI (by omega) (by omega), vp_in_nI (by omega) (by omega), ih (i + 1) _ (by omega) (e.si (by omega) (by omega) _ _) (fun l hl => ?_)⟩
      by_cases he : l = i
      · subst he; rw [gi_same, e.i (by omega)]; exact h.ef l (by omega)
      · rw [gi_pl he]; exact t1 l (by omega)
  exact ⟨11, key 10 0 σ rfl (eo_r _ _ _) (fun l hl => absurd hl (by omega))⟩
theorem m_copy {a0 n0 a1 n1 : Nat} {σ : Dz} (h1 : n0 ≤ n1) (h2 : n1 < 2 ^ 31) (h3 : a0 ≠ a1) {post : Dz → Prop} (hp : ∀ σ', eqO a1 (a1 + 1) σ σ' → (∀ j, j < n0 → gz_i σ' a1 j = gz_i σ a0 j) → post σ') : P_X10_copy σ a0 n0 a1 n1 post := by
  unfold P_X10_copy
  have key : ∀ q i σ', i + q = n0 → eqO a1 (a1 + 1) σ σ' → (∀ j, j < i → gz_i σ' a1 j = gz_i σ a0 j) → L_X10_copy_2 a0 n0 a1 n1 post (q + 1) σ' (nI i) := by
    intro q
    induction q with
    | zero =>
      intro i σ' hi e t
      show B_X10_copy_2 _ _ _ _ _ _ _ _
      unfold B_X10_copy_2
      exact br_t (show nI n0 ≤ nI i by rw [nI_leI (by omega) (by omega)]; omega) (hp σ' e fun j hj => t j (by omega))
    | succ q ih =>
      intro i σ' hi e t
      show B_X10_copy_2 _ _ _ _ _ _ _ _
      unfold B_X10_copy_2
      rw [nI_clamp (by omega), nI_1]
      refine br_f (show ¬ nI n0 ≤ nI i by rw [nI_leI (by omega) (by omega)]; omega) ⟨vp_in_nI (by omega) (by omega), vp_in_nI (by omega) (by omega), ih (i + 1) _ (by omega) (e.si (by omega) (by omega) _ _) (fun j hj => ?_)⟩
      by_cases he : j = i
      · subst he; rw [gi_same, e.i (by omega)]
      · rw [gi_pl he]; exact t j (by omega)
  exact ⟨n0 + 1, key n0 0 σ (by omega) (eo_r _ _ _) (fun j hj => absurd hj (by omega))⟩
end QExchange
