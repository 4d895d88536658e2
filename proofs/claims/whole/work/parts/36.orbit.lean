/-! orbit -/
section QOrbit
def clo (ef : Nat → Nat) (T : Nat) : Prop := ∀ l, l < 10 → ∀ i, i < 7 → T.testBit i = true → T.testBit (imgN (ef l) i) = true
def subB (O T : Nat) : Prop := ∀ i, O.testBit i = true → T.testBit i = true
/-- within every closed set that has p; has p; bits below n -/
def inO (n : Nat) (ef : Nat → Nat) (p O : Nat) : Prop := O.testBit p = true ∧ (∀ j, O.testBit j = true → j < n) ∧ ∀ T, T.testBit p = true → clo ef T → subB O T
theorem orb_one {n p O O' : Nat} {ef : Nat → Nat} (h : inO n ef p O) (h' : inO n ef p O') (c : clo ef O) (c' : clo ef O') : O = O' := by
  apply Nat.eq_of_testBit_eq
  intro i
  have a := h.2.2 O' h'.1 c' i
  have b := h'.2.2 O h.1 c i
  cases e : O.testBit i with
  | true => exact (a e).symm
  | false =>
    cases e' : O'.testBit i with
    | true => rw [b e'] at e; cases e
    | false => rfl
theorem bit_q {x i : Nat} (hx : x < 128) (hi : i < 7) : (((nI x).toUInt32 >>> ((nI i).toUInt32 &&& Int32.toUInt32 31)).toInt32 &&& (1 : Int32)) = (1 : Int32) ↔ x.testBit i = true := by
  rw [q_ushr (by omega) (by omega), q_and1, Nat.testBit_eq_decide_div_mod_eq, decide_eq_true_eq]
  have : x / 2 ^ i % 2 < 2 := Nat.mod_lt _ (by omega)
  rw [show (1 : Int32) = nI 1 from rfl, nI_eq (by omega) (by decide)]
theorem bit_lt {x : Nat} (h : ∀ j, x.testBit j = true → j < 7) : x < 128 := by
  apply Nat.lt_pow_two_of_testBit (n := 7)
  intro i hi
  cases e : x.testBit i with
  | true => exact absurd (h i e) (by omega)
  | false => rfl
theorem or_bit {x k j : Nat} : (x ||| 2 ^ k).testBit j = true ↔ x.testBit j = true ∨ j = k := by
  rw [fb_bit_set, Bool.or_eq_true, decide_eq_true_eq]
/-! the class -/
def spIn (O e W : Nat) : Nat → Nat
  | 0 => W
  | i + 1 => if O.testBit i then spIn O e W i ||| 2 ^ imgN e i else spIn O e W i
theorem spIn_bit (O e W j : Nat) : ∀ k, (spIn O e W k).testBit j = true ↔ W.testBit j = true ∨ ∃ i, i < k ∧ O.testBit i = true ∧ imgN e i = j
  | 0 => by simp [spIn]
  | k + 1 => by
    rw [spIn]
    split
    · rename_i h
      rw [or_bit, spIn_bit O e W j k]
      constructor
      · rintro ((a | ⟨i, b, c, d⟩) | a)
        · exact Or.inl a
        · exact Or.inr ⟨i, by omega, c, d⟩
        · exact Or.inr ⟨k, by omega, h, a.symm⟩
      · rintro (a | ⟨i, b, c, d⟩)
        · exact Or.inl (Or.inl a)
        · by_cases hk : i = k
          · subst hk; exact Or.inr d.symm
          · exact Or.inl (Or.inr ⟨i, by omega, c, d⟩)
    · rename_i h
      rw [spIn_bit O e W j k]
      constructor
      · rintro (a | ⟨i, b, c, d⟩)
        · exact Or.inl a
        · exact Or.inr ⟨i, by omega, c, d⟩
      · rintro (a | ⟨i, b, c, d⟩)
        · exact Or.inl a
        · by_cases hk : i = k
          · subst hk; exact absurd c h
          · exact Or.inr ⟨i, by omega, c, d⟩
def spOut (ef : Nat → Nat) (O : Nat) : Nat → Nat
  | 0 => O
  | l + 1 => spIn O (ef l) (spOut ef O l) 7
theorem spOut_bit (ef : Nat → Nat) (O j : Nat) : ∀ L, (spOut ef O L).testBit j = true ↔ O.testBit j = true ∨ ∃ l i, l < L ∧ i < 7 ∧ O.testBit i = true ∧ imgN (ef l) i = j
  | 0 => by simp [spOut]
  | L + 1 => by
    rw [spOut, spIn_bit, spOut_bit ef O j L]
    constructor
    · rintro ((a | ⟨l, i, b, c, d, e⟩) | ⟨i, b, c, d⟩)
      · exact Or.inl a
      · exact Or.inr ⟨l, i, by omega, c, d, e⟩
      · exact Or.inr ⟨L, i, by omega, b, c, d⟩
    · rintro (a | ⟨l, i, b, c, d, e⟩)
      · exact Or.inl (Or.inl a)
      · by_cases hl : l = L
        · subst hl; exact Or.inr ⟨i, c, d, e⟩
        · exact Or.inl (Or.inr ⟨l, i, by omega, c, d, e⟩)
theorem spOut_lt {ef : Nat → Nat} {O : Nat} (he : ∀ l, l < 10 → isPk 7 (ef l)) (hO : O < 128) : ∀ L, L ≤ 10 → spOut ef O L < 128
  | 0, _ => hO
  | L + 1, h => by
    apply bit_lt
    intro j hj
    rcases (spOut_bit ef O j (L + 1)).mp hj with a | ⟨l, i, b, c, d, e⟩
    · by_cases h7 : j < 7
      · exact h7
      · have h2 : 2 ^ 7 ≤ 2 ^ j := Nat.pow_le_pow_right (by omega) (by omega)
        have : O.testBit j = false := Nat.testBit_lt_two_pow (by omega)
        rw [this] at a; cases a
    · rw [← e]; exact (he l (by omega)).2.1 i c
theorem q_spread {A : Abs} (o : okA A) {σ : Dz} (c : CI A σ) {O : Nat} (hO : O < 128) {post : Int32 → Prop} (hp : post (nI (spOut A.S.ef O 10))) : P_X4_spread σ 17 (nI O) post := by
  unfold P_X4_spread
  have he : ∀ l, l < 10 → isPk 7 (A.S.ef l) := fun l hl => (o.S.pk l hl).seven
  have key : ∀ k l, l + k = 10 → L_X4_spread_4 σ 17 post (k + 1) (nI O) (nI (spOut A.S.ef O l)) (nI l) := by
    intro k
    induction k with
    | zero =>
      intro l hl
      show B_X4_spread_4 _ _ _ _ _ _ _
      unfold B_X4_spread_4
      have : l = 10 := by omega
      subst this
      exact br_t (by simp (disch := omega) only [fa_lit, nI_add, pk_mul, nI_ltI, nI_leI, nI_eq] <;> omega) hp
    | succ k ih =>
      intro l hl
      show B_X4_spread_4 _ _ _ _ _ _ _
      unfold B_X4_spread_4
      have hr := ih (l + 1) (by omega)
      have key2 : ∀ q i, i + q = 7 → L_X4_spread_13 σ 17 post (L_X4_spread_4 σ 17 post (k + 1)) (q + 1) (nI O) (nI (spIn O (A.S.ef l) (spOut A.S.ef O l) i)) (nI l) (nI i) := by
        intro q
        induction q with
        | zero =>
          intro i hi
          show B_X4_spread_13 _ _ _ _ _ _ _ _ _
          unfold B_X4_spread_13
          have : i = 7 := by omega
          subst this
          refine br_t (by simp (disch := omega) only [fa_lit, nI_add, pk_mul, nI_ltI, nI_leI, nI_eq] <;> omega) ?_
          rw [nI_1]; exact hr
        | succ q ih2 =>
          intro i hi
          show B_X4_spread_13 _ _ _ _ _ _ _ _ _
          unfold B_X4_spread_13 B_X4_spread_46
          have hi2 := ih2 (i + 1) (by omega)
          rw [spIn] at hi2
          refine br_f (by simp (disch := omega) only [fa_lit, nI_add, pk_mul, nI_ltI, nI_leI, nI_eq] <;> omega) ?_
          by_cases hb : O.testBit i = true
          · rw [if_pos hb] at hi2
            refine bn_t ((bit_q hO (by omega)).mpr hb) ⟨vp_in_nI (by omega) (by omega), ?_⟩
            rw [nI_clamp (by omega), c.S.ef l (by omega)]
            have hx := (he l (by omega)).1
            refine q_imageOf (by omega) (by omega) ?_
            have := (he l (by omega)).2.1 i (by omega)
            rw [q_shl1 (by omega), fa_or, nI_1]; exact hi2
          · rw [if_neg hb] at hi2
            refine bn_f (fun z => hb ((bit_q hO (by omega)).mp z)) ?_
            rw [nI_1]; exact hi2
      exact br_f (by simp (disch := omega) only [fa_lit, nI_add, pk_mul, nI_ltI, nI_leI, nI_eq] <;> omega) ⟨8, key2 7 0 rfl⟩
  exact ⟨11, key 10 0 rfl⟩
theorem ct_lt {p q : Nat → Bool} {n i : Nat} (h : ∀ k, k < n → p k = true → q k = true) (hi : i < n) (h1 : q i = true) (h2 : p i = false) : fb_ct p n < fb_ct q n := by
  have e := fb_ct_upd p true (i := i) hi
  rw [h2, if_neg (show ¬ (false = true) by decide), if_pos rfl] at e
  have s : fb_ct (fun k => if k = i then true else p k) n ≤ fb_ct q n := fb_ct_sub fun k hk z => by
    by_cases e : k = i
    · rw [e]; exact h1
    · have z : (if k = i then true else p k) = true := z
      rw [if_neg e] at z; exact h k hk z
  omega
theorem clo_full {n : Nat} {ef : Nat → Nat} (h7 : n ≤ 7) (he : ∀ l, l < 10 → isPk n (ef l)) {O : Nat} (hb : ∀ j, O.testBit j = true → j < n) (hc : n ≤ fb_ct (fun k => O.testBit k) n) : clo ef O := by
  intro l hl i hi h
  have := fb_ct_le (fun k => O.testBit k) n
  exact fb_ct_all.mp (show fb_ct (fun k => O.testBit k) n = n by omega) _ ((he l hl).lt h7 (hb i h))
theorem clo_or {ef : Nat → Nat} {O : Nat} : clo ef O ∨ ∃ l i, l < 10 ∧ i < 7 ∧ O.testBit i = true ∧ O.testBit (imgN (ef l) i) = false := by
  by_cases h : ∃ l i, l < 10 ∧ i < 7 ∧ O.testBit i = true ∧ O.testBit (imgN (ef l) i) = false
  · exact Or.inr h
  · refine Or.inl fun l hl i hi hb => ?_
    cases e : O.testBit (imgN (ef l) i) with
    | true => rfl
    | false => exact absurd ⟨l, i, hl, hi, hb, e⟩ h
theorem spOut_same {ef : Nat → Nat} {O : Nat} (h : clo ef O) : spOut ef O 10 = O := by
  apply Nat.eq_of_testBit_eq
  intro j
  have := spOut_bit ef O j 10
  cases e : O.testBit j with
  | true => exact this.mpr (Or.inl e)
  | false =>
    cases e' : (spOut ef O 10).testBit j with
    | false => rfl
    | true =>
      rcases this.mp e' with a | ⟨l, i, b, c, d, f⟩
      · rw [a] at e; cases e
      · have := h l b i c d
        rw [f, e] at this; cases this
def rnds (ef : Nat → Nat) (O : Nat) : Nat → Nat
  | 0 => O
  | r + 1 => spOut ef (rnds ef O r) 10
theorem rnds_ok {n p : Nat} {ef : Nat → Nat} (h7 : n ≤ 7) (he : ∀ l, l < 10 → isPk n (ef l)) (hp : p < n) : ∀ r, inO n ef p (rnds ef (2 ^ p) r) ∧ (clo ef (rnds ef (2 ^ p) r) ∨ r + 1 ≤ fb_ct (fun k => (rnds ef (2 ^ p) r).testBit k) n)
  | 0 => by
    have hb : ∀ j, (2 ^ p).testBit j = true ↔ j = p := fun j => by
      rw [Nat.testBit_two_pow]; simp [eq_comm]
    refine ⟨⟨(hb p).mpr rfl, fun j hj => by rw [(hb j).mp hj]; exact hp, fun T hT _ j hj => by rw [(hb j).mp hj]; exact hT⟩, Or.inr ?_⟩
    exact fb_ct_pos.mpr ⟨p, hp, (hb p).mpr rfl⟩
  | r + 1 => by
    obtain ⟨⟨a1, a2, a3⟩, hc⟩ := rnds_ok h7 he hp r
    refine ⟨⟨(spOut_bit ef _ p 10).mpr (Or.inl a1), fun j hj => ?_, fun T hT hcl j hj => ?_⟩, ?_⟩
    · rcases (spOut_bit ef _ j 10).mp hj with a | ⟨l, i, b, c, d, f⟩
      · exact a2 j a
      · rw [← f]; exact (he l b).lt h7 (a2 i d)
    · rcases (spOut_bit ef _ j 10).mp hj with a | ⟨l, i, b, c, d, f⟩
      · exact a3 T hT hcl j a
      · rw [← f]; exact hcl l b i c (a3 T hT hcl i d)
    · show clo ef (spOut ef (rnds ef (2 ^ p) r) 10) ∨ _
      rcases clo_or (ef := ef) (O := rnds ef (2 ^ p) r) with h | ⟨l, i, b, c, d, f⟩
      · rw [spOut_same h]; exact Or.inl h
      · rcases hc with h | h
        · rw [spOut_same h]; exact Or.inl h
        · refine Or.inr ?_
          have := ct_lt (p := fun k => (rnds ef (2 ^ p) r).testBit k) (q := fun k => (spOut ef (rnds ef (2 ^ p) r) 10).testBit k) (n := n) (i := imgN (ef l) i) (fun k _ z => (spOut_bit ef _ k 10).mpr (Or.inl z)) ((he l b).lt h7 (a2 i d)) ((spOut_bit ef _ _ 10).mpr (Or.inr ⟨l, i, b, c, d, rfl⟩)) f
          show r + 1 + 1 ≤ fb_ct (fun k => (spOut ef (rnds ef (2 ^ p) r) 10).testBit k) n
          omega
theorem rnds_clo {n p : Nat} {ef : Nat → Nat} (h7 : n ≤ 7) (he : ∀ l, l < 10 → isPk n (ef l)) (hp : p < n) : clo ef (rnds ef (2 ^ p) (n - 1)) := by
  have h := rnds_ok h7 he hp (n - 1)
  rcases h.2 with a | a
  · exact a
  · exact clo_full h7 he h.1.2.1 (by omega)
/-! the model -/
def gsIn (e W : Nat) : Nat → Nat
  | 0 => W
  | i + 1 => if (gsIn e W i).testBit i then gsIn e W i ||| 2 ^ imgN e i else gsIn e W i
theorem gsIn_up (e W : Nat) {j : Nat} : ∀ k m, (gsIn e W k).testBit j = true → (gsIn e W (k + m)).testBit j = true
  | k, 0, h => h
  | k, m + 1, h => by
    have := gsIn_up e W k m h
    show (gsIn e W (k + m + 1)).testBit j = true
    rw [gsIn]; split
    · exact or_bit.mpr (Or.inl this)
    · exact this
theorem gsIn_hit (e W : Nat) {i k : Nat} (hi : i < k) (h : W.testBit i = true) : (gsIn e W k).testBit (imgN e i) = true := by
  have h1 : (gsIn e W i).testBit i = true := by
    have := gsIn_up e W 0 i (j := i) h
    rw [Nat.zero_add] at this; exact this
  have h2 : (gsIn e W (i + 1)).testBit (imgN e i) = true := by
    rw [gsIn, if_pos h1]; exact or_bit.mpr (Or.inr rfl)
  have := gsIn_up e W (i + 1) (k - (i + 1)) h2
  rw [show i + 1 + (k - (i + 1)) = k by omega] at this; exact this
theorem gsIn_sub {e W T : Nat} (h : subB W T) (n : Nat) (hc : ∀ i, i < n → T.testBit i = true → T.testBit (imgN e i) = true) : ∀ k, k ≤ n → subB (gsIn e W k) T
  | 0, _ => h
  | k + 1, hk => by
    intro j hj
    have ih := gsIn_sub h n hc k (by omega)
    rw [gsIn] at hj
    split at hj
    · rename_i hb
      rcases or_bit.mp hj with a | a
      · exact ih j a
      · rw [a]; exact hc k (by omega) (ih k hb)
    · exact ih j hj
def gsOut (df : Nat → Bool) (ef : Nat → Nat) (n W : Nat) : Nat → Nat
  | 0 => W
  | l + 1 => if df (l / 2) then gsIn (ef l) (gsOut df ef n W l) n else gsOut df ef n W l
theorem gsOut_up (df : Nat → Bool) (ef : Nat → Nat) (n W : Nat) {j : Nat} : ∀ k m, (gsOut df ef n W k).testBit j = true → (gsOut df ef n W (k + m)).testBit j = true
  | k, 0, h => h
  | k, m + 1, h => by
    have := gsOut_up df ef n W k m h
    show (gsOut df ef n W (k + m + 1)).testBit j = true
    rw [gsOut]; split
    · have := gsIn_up (ef (k + m)) _ 0 n this
      rw [Nat.zero_add] at this; exact this
    · exact this
theorem gsOut_sub {df : Nat → Bool} {ef : Nat → Nat} {n W T : Nat} (h7 : n ≤ 7) (h : subB W T) (hc : clo ef T) : ∀ k, k ≤ 10 → subB (gsOut df ef n W k) T
  | 0, _ => h
  | k + 1, hk => by
    have ih := gsOut_sub (df := df) h7 h hc k (by omega)
    rw [gsOut]; split
    · exact gsIn_sub ih n (fun i hi => hc k (by omega) i (by omega)) n (Nat.le_refl _)
    · exact ih
theorem gsOut_bits {df : Nat → Bool} {ef : Nat → Nat} {n W : Nat} (h7 : n ≤ 7) (he : ∀ l, l < 10 → isPk n (ef l)) (h : ∀ j, W.testBit j = true → j < n) : ∀ k, k ≤ 10 → ∀ j, (gsOut df ef n W k).testBit j = true → j < n := by
  intro k hk j hj
  have full : ∀ j, (2 ^ n - 1).testBit j = true ↔ j < n := fun j => by rw [Nat.testBit_two_pow_sub_one, decide_eq_true_eq]
  refine (full j).mp (gsOut_sub (T := 2 ^ n - 1) h7 (fun j hj => (full j).mpr (h j hj)) (fun l hl i hi hb => (full _).mpr ((he l hl).lt h7 ((full i).mp hb))) k hk j hj)
theorem gsOut_clo {n : Nat} {S : Sit} (h7 : n ≤ 7) (o : okSit n S) {W : Nat} (hb : ∀ j, W.testBit j = true → j < n) (h : gsOut S.df S.ef n W 10 = W) : clo S.ef W := by
  intro l hl i hi hw
  cases hd : S.df (l / 2) with
  | false => rw [o.un l hl hd, img_id i hi]; exact hw
  | true =>
    have h1 : (gsOut S.df S.ef n W l).testBit i = true := by
      have := gsOut_up S.df S.ef n W 0 l (j := i) hw
      rw [Nat.zero_add] at this; exact this
    have h2 : (gsOut S.df S.ef n W (l + 1)).testBit (imgN (S.ef l) i) = true := by
      rw [gsOut, if_pos hd]; exact gsIn_hit _ _ (hb i hw) h1
    have := gsOut_up S.df S.ef n W (l + 1) (10 - (l + 1)) h2
    rw [show l + 1 + (10 - (l + 1)) = 10 by omega, h] at this; exact this
theorem m_isLetter {A : Abs} {σ : Dz} (m : MSit 44 A.n A.S σ) {l : Nat} (hl : l < 10) {post : Int32 → Prop} (hp : post (if A.S.df (l / 2) then 1 else 0)) : P_X10_isLetter σ (nI l) post := by
  unfold P_X10_isLetter
  rw [show (2 : Int32) = nI 2 from rfl, pk_div (by omega) (by omega) (by decide), nI_clamp (by omega)]
  have e := m.df (l / 2) (by omega)
  have h01 := df_01 m (show l / 2 < 5 by omega)
  refine ⟨vp_in_nI (by omega) (by omega), h01, ?_⟩
  rw [show gz_i σ 45 (l / 2) = if A.S.df (l / 2) then 1 else 0 from e]; exact hp
theorem m_pass {A : Abs} (o : okA A) {σ : Dz} (m : MI A σ) {W : Nat} (hb : ∀ j, W.testBit j = true → j < A.n) {post : Int32 → Dz → Prop} {rc_22 : Dz → Int32 → Int32 → Prop} {y3 : Int32} (hr : rc_22 σ (nI (gsOut A.S.df A.S.ef A.n W 10)) y3) : ∃ n, L_X10_orbit_32 post rc_22 n σ (nI W) y3 0 := by
  have h7 := o.n2
  have bits := gsOut_bits (df := A.S.df) h7 o.S.pk hb
  have key : ∀ k l, l + k = 10 → L_X10_orbit_32 post rc_22 (k + 1) σ (nI (gsOut A.S.df A.S.ef A.n W l)) y3 (nI l) := by
    intro k
    induction k with
    | zero =>
      intro l hl
      show B_X10_orbit_32 _ _ _ _ _ _ _
      unfold B_X10_orbit_32
      have : l = 10 := by omega
      subst this
      exact br_t (by simp (disch := omega) only [fa_lit, nI_add, pk_mul, nI_ltI, nI_leI, nI_eq] <;> omega) hr
    | succ k ih =>
      intro l hl
      show B_X10_orbit_32 _ _ _ _ _ _ _
      unfold B_X10_orbit_32
      have hn := ih (l + 1) (by omega)
      rw [gsOut] at hn
      refine br_f (by simp (disch := omega) only [fa_lit, nI_add, pk_mul, nI_ltI, nI_leI, nI_eq] <;> omega) ?_
      cases hd : A.S.df (l / 2) with
      | false =>
        rw [hd, if_neg (by decide)] at hn
        refine ⟨1, ?_⟩
        show B_X10_orbit_42 _ _ _ _ _ _ _ _ _
        unfold B_X10_orbit_42 B_X10_orbit_102
        rw [m.n, nI_1]
        have := o.n1
        refine br_f (by simp (disch := omega) only [fa_lit, nI_add, pk_mul, nI_ltI, nI_leI, nI_eq] <;> omega) (m_isLetter m.S (by omega) ?_)
        rw [hd]
        exact br_t rfl hn
      | true =>
        rw [hd, if_pos rfl] at hn
        have b0 := bits l (by omega)
        have bi : ∀ i, i ≤ A.n → ∀ j, (gsIn (A.S.ef l) (gsOut A.S.df A.S.ef A.n W l) i).testBit j = true → j < A.n := by
          intro i hi j hj
          have full : ∀ j, (2 ^ A.n - 1).testBit j = true ↔ j < A.n := fun j => by rw [Nat.testBit_two_pow_sub_one, decide_eq_true_eq]
          exact (full j).mp (gsIn_sub (T := 2 ^ A.n - 1) (fun j hj => (full j).mpr (b0 j hj)) A.n (fun i hi hb => (full _).mpr ((o.S.pk l (by omega)).lt h7 hi)) i hi j hj)
        have key2 : ∀ q i, i + q = A.n → L_X10_orbit_42 post rc_22 (L_X10_orbit_32 post rc_22 (k + 1)) (q + 1) σ (nI (gsIn (A.S.ef l) (gsOut A.S.df A.S.ef A.n W l) i)) y3 (nI l) (nI (i + 1)) := by
          intro q
          induction q with
          | zero =>
            intro i hi
            show B_X10_orbit_42 _ _ _ _ _ _ _ _ _
            unfold B_X10_orbit_42 B_X10_orbit_102
            rw [m.n, nI_1]
            have : i = A.n := by omega
            subst this
            exact br_t (by simp (disch := omega) only [fa_lit, nI_add, pk_mul, nI_ltI, nI_leI, nI_eq] <;> omega) hn
          | succ q ih2 =>
            intro i hi
            show B_X10_orbit_42 _ _ _ _ _ _ _ _ _
            unfold B_X10_orbit_42 B_X10_orbit_94
            rw [m.n]
            refine br_f (by simp (disch := omega) only [fa_lit, nI_add, pk_mul, nI_ltI, nI_leI, nI_eq] <;> omega) (m_isLetter m.S (by omega) ?_)
            rw [hd]
            have hi2 := ih2 (i + 1) (by omega)
            rw [gsIn] at hi2
            have hlt := bit_lt fun j hj => Nat.lt_of_lt_of_le (bi i (by omega) j hj) h7
            refine br_f (by decide) ?_
            rw [show nI (i + 1) - 1 = nI i from pm_s i, pk_shrN (by omega) (nI i &&& 31) i (s_l i (by omega)), q_and1]
            have eb : (gsIn (A.S.ef l) (gsOut A.S.df A.S.ef A.n W l) i).testBit i = decide ((gsIn (A.S.ef l) (gsOut A.S.df A.S.ef A.n W l) i) / 2 ^ i % 2 = 1) := Nat.testBit_eq_decide_div_mod_eq
            by_cases hbit : (gsIn (A.S.ef l) (gsOut A.S.df A.S.ef A.n W l) i) / 2 ^ i % 2 = 1
            · rw [decide_eq_true hbit] at eb
              rw [if_pos eb] at hi2
              rw [hbit]
              refine bn_t rfl ?_
              rw [show (8 : Int32) * nI l + nI (i + 1) = nI (8 * l + (i + 1)) by rw [show (8 : Int32) = nI 8 from rfl, pk_mul, nI_add], nI_clamp (by omega), m.S.ef l (by omega) hd i (by omega), pm_s]
              have := (o.S.pk l (by omega)).lt h7 (show i < A.n by omega)
              rw [q_shl1 (by omega), fa_or, nI_1]
              exact ⟨vp_in_nI (by omega) (by omega), hi2⟩
            · rw [decide_eq_false hbit] at eb
              rw [if_neg (by rw [eb]; decide)] at hi2
              rw [show (gsIn (A.S.ef l) (gsOut A.S.df A.S.ef A.n W l) i) / 2 ^ i % 2 = 0 by omega]
              refine bn_f (by decide) ?_
              rw [show (0 : Int32) = nI 0 from rfl, fa_or, Nat.or_zero, nI_1]
              exact hi2
        exact ⟨A.n + 1, key2 A.n 0 (by omega)⟩
  exact ⟨11, key 10 0 rfl⟩
theorem m_orbit {A : Abs} (o : okA A) {σ : Dz} (m : MI A σ) {p : Nat} (hp : p < A.n) {post : Int32 → Dz → Prop} (hq : ∀ O, inO A.n A.S.ef p O → clo A.S.ef O → post (nI O) (sz_i σ 43 0 0)) : P_X10_orbit σ (nI (p + 1)) post := by
  unfold P_X10_orbit
  have h7 := o.n2
  refine pos_m o m hp (bn_f (by decide) ?_)
  rw [pm_s, q_shl1 (by omega)]
  have key : ∀ k O had, inO A.n A.S.ef p O → A.n ≤ fb_ct (fun j => O.testBit j) A.n + k → had < 128 → had ≠ O → L_X10_orbit_22 post (k + 2) σ (nI O) (nI had) := by
    intro k
    induction k with
    | zero =>
      intro O had hO hc hh hne
      show B_X10_orbit_22 _ _ _ _ _
      unfold B_X10_orbit_22
      have hlt := bit_lt fun j hj => Nat.lt_of_lt_of_le (hO.2.1 j hj) h7
      refine br_f (by simp (disch := omega) only [fa_lit, nI_add, pk_mul, nI_ltI, nI_leI, nI_eq] <;> omega) (m_pass o m hO.2.1 ?_)
      have hcl := clo_full h7 o.S.pk hO.2.1 (by omega)
      have e : gsOut A.S.df A.S.ef A.n O 10 = O := by
        apply Nat.eq_of_testBit_eq
        intro j
        have up := gsOut_up A.S.df A.S.ef A.n O 0 10 (j := j)
        have dn := gsOut_sub (df := A.S.df) h7 (fun _ h => h : subB O O) hcl 10 (by omega) j
        rw [Nat.zero_add] at up
        cases e1 : O.testBit j with
        | true => exact up e1
        | false =>
          cases e2 : (gsOut A.S.df A.S.ef A.n O 10).testBit j with
          | true => rw [dn e2] at e1; cases e1
          | false => rfl
      rw [e]
      show B_X10_orbit_22 _ _ _ _ _
      unfold B_X10_orbit_22
      exact br_t rfl (hq O hO hcl)
    | succ k ih =>
      intro O had hO hc hh hne
      show B_X10_orbit_22 _ _ _ _ _
      unfold B_X10_orbit_22
      have hlt := bit_lt fun j hj => Nat.lt_of_lt_of_le (hO.2.1 j hj) h7
      refine br_f (by simp (disch := omega) only [fa_lit, nI_add, pk_mul, nI_ltI, nI_leI, nI_eq] <;> omega) (m_pass o m hO.2.1 ?_)
      have up : ∀ j, O.testBit j = true → (gsOut A.S.df A.S.ef A.n O 10).testBit j = true := fun j hj => by
        have := gsOut_up A.S.df A.S.ef A.n O 0 10 (j := j) hj
        rw [Nat.zero_add] at this; exact this
      have bits := gsOut_bits (df := A.S.df) h7 o.S.pk hO.2.1 10 (by omega)
      by_cases e : gsOut A.S.df A.S.ef A.n O 10 = O
      · rw [e]
        show B_X10_orbit_22 _ _ _ _ _
        unfold B_X10_orbit_22
        exact br_t rfl (hq O hO (gsOut_clo h7 o.S hO.2.1 e))
      · refine ih _ O ⟨up p hO.1, bits, fun T hT hcl => gsOut_sub h7 (hO.2.2 T hT hcl) hcl 10 (by omega)⟩ ?_ hlt (fun z => e z.symm)
        have : ∃ j, j < A.n ∧ (gsOut A.S.df A.S.ef A.n O 10).testBit j = true ∧ O.testBit j = false := by
          apply Classical.byContradiction
          intro hno
          refine e (Nat.eq_of_testBit_eq fun j => ?_)
          cases e1 : O.testBit j with
          | true => exact up j e1
          | false =>
            cases e2 : (gsOut A.S.df A.S.ef A.n O 10).testBit j with
            | true => exact absurd ⟨j, bits j e2, e2, e1⟩ hno
            | false => rfl
        obtain ⟨j, j1, j2, j3⟩ := this
        have := ct_lt (p := fun k => O.testBit k) (q := fun k => (gsOut A.S.df A.S.ef A.n O 10).testBit k) (n := A.n) (i := j) (fun k _ z => up k z) j1 j2 j3
        omega
  have h0 := (rnds_ok h7 o.S.pk hp 0).1
  have hpp : 0 < 2 ^ p := Nat.two_pow_pos p
  exact ⟨A.n + 2, key A.n (2 ^ p) 0 h0 (by omega) (by omega) (by omega)⟩
theorem cs_orbit {L : Nat} {xs : Nat → Int32} {rc : Dz → Int32 → Prop} {σ : Dz} {y5 : Int32} (h1 : vp_in (y5 + 1) L) (hI : Inv σ) (hr : ∀ σ', Inv σ' → rc σ' (y5 + 4)) : B_L_law_1537 L xs rc σ y5 := by
  unfold B_L_law_1537 P_L_orbit P_X9_orbit
  refine ⟨h1, ?_⟩
  generalize xs (y5 + 1).toNatClampNeg = x
  obtain ⟨A, o, c, m⟩ := hI
  have h7 := o.n2
  rcases places_ x o with ⟨p, hp, rfl⟩ | hb
  · refine pos_c o c hp ?_
    rw [pm_s, q_shl1 (by omega)]
    have lt : ∀ r, rnds A.S.ef (2 ^ p) r < 128 := fun r => bit_lt fun j hj => Nat.lt_of_lt_of_le ((rnds_ok h7 o.S.pk hp r).1.2.1 j hj) h7
    have key : ∀ (post : Int32 → Prop) (px : String → Prop), post (nI (rnds A.S.ef (2 ^ p) (A.n - 1))) → ∀ k r, r + k = A.n - 1 → L_X9_orbit_13 σ post px (k + 1) (nI (rnds A.S.ef (2 ^ p) r)) (nI (r + 1)) := by
      intro post px hq k
      induction k with
      | zero =>
        intro r hr
        show B_X9_orbit_13 _ _ _ _ _ _
        unfold B_X9_orbit_13
        rw [c.n]
        have : r = A.n - 1 := by omega
        subst this
        exact br_t (by simp (disch := omega) only [fa_lit, nI_add, pk_mul, nI_ltI, nI_leI, nI_eq] <;> omega) hq
      | succ k ih =>
        intro r hr
        show B_X9_orbit_13 _ _ _ _ _ _
        unfold B_X9_orbit_13
        rw [c.n]
        refine br_f (by simp (disch := omega) only [fa_lit, nI_add, pk_mul, nI_ltI, nI_leI, nI_eq] <;> omega) (q_spread o c (lt r) ?_)
        rw [nI_1]
        exact ih (r + 1) (by omega)
    refine ⟨A.n - 1 + 1, key _ _ ⟨h1, m_orbit o (m.sl _ _) hp fun O i1 i2 => ?_⟩ (A.n - 1) 0 (by omega)⟩
    rw [orb_one i1 (rnds_ok h7 o.S.pk hp (A.n - 1)).1 i2 (rnds_clo h7 o.S.pk hp)]
    exact good_i o c m hr
  · exact (hb σ).1 c _ _ ⟨rfl, h1, (hb σ).2 m _ (bn_t rfl (bad_i o c m (by decide) hr))⟩
end QOrbit
