/-! the search for commutators: lists of words -/
section QSearch
theorem drop_getD : ∀ (l : List Nat) (i : Nat), i < l.length → l.drop i = l.getD i 0 :: l.drop (i + 1)
  | [], i, h => absurd h (Nat.not_lt_zero i)
  | a :: l, 0, _ => rfl
  | a :: l, i + 1, h => drop_getD l i (Nat.lt_of_succ_lt_succ h)
theorem getD_app : ∀ (l : List Nat) (a i : Nat), i ≤ l.length → (l ++ [a]).getD i 0 = if i < l.length then l.getD i 0 else a
  | [], a, 0, _ => rfl
  | [], a, i + 1, h => absurd h (by simp)
  | b :: l, a, 0, _ => rfl
  | b :: l, a, i + 1, h => by
    have := getD_app l a i (Nat.le_of_succ_le_succ h)
    show (l ++ [a]).getD i 0 = if i + 1 < l.length + 1 then l.getD i 0 else a
    rw [this]
    by_cases hh : i < l.length
    · rw [if_pos hh, if_pos (by omega)]
    · rw [if_neg hh, if_neg (by omega)]
def shOK (df : Nat → Bool) (m u : Nat) : Bool := df (u % 10 / 2) && (m == 1 || df (u / 10 / 2))
def rg (m : Nat) : Nat := if m = 1 then 10 else 100
def WL (df : Nat → Bool) (m : Nat) : List Nat := (List.range (rg m)).filter (shOK df m)
def dfB (b0 b1 b2 b3 b4 : Bool) (q : Nat) : Bool := if q = 0 then b0 else if q = 1 then b1 else if q = 2 then b2 else if q = 3 then b3 else b4
theorem dfB_eq (df : Nat → Bool) : ∀ q, q < 5 → df q = dfB (df 0) (df 1) (df 2) (df 3) (df 4) q := by
  intro q hq
  rcases (show q = 0 ∨ q = 1 ∨ q = 2 ∨ q = 3 ∨ q = 4 by omega) with h | h | h | h | h <;> subst h <;> rfl
theorem lets_B (df : Nat → Bool) : lets df = lets (dfB (df 0) (df 1) (df 2) (df 3) (df 4)) :=
  List.filter_congr fun l hl => dfB_eq df (l / 2) (by have := List.mem_range.mp hl; omega)
theorem WL_B (df : Nat → Bool) (m : Nat) : WL df m = WL (dfB (df 0) (df 1) (df 2) (df 3) (df 4)) m :=
  List.filter_congr fun u hu => by
    have h := List.mem_range.mp hu
    have h2 : u < 100 := by unfold rg at h; split at h <;> omega
    unfold shOK
    rw [dfB_eq df (u % 10 / 2) (by omega), dfB_eq df (u / 10 / 2) (by omega)]
def factW (b0 b1 b2 b3 b4 : Bool) : Bool :=
  (WL (dfB b0 b1 b2 b3 b4) 1 == lets (dfB b0 b1 b2 b3 b4)) && ((WL (dfB b0 b1 b2 b3 b4) 2).length == (lets (dfB b0 b1 b2 b3 b4)).length * (lets (dfB b0 b1 b2 b3 b4)).length) && (List.range 100).all (fun i => decide ((WL (dfB b0 b1 b2 b3 b4) 2).length ≤ i) || ((WL (dfB b0 b1 b2 b3 b4) 2).getD i 0 == 10 * (lets (dfB b0 b1 b2 b3 b4)).getD (i / (lets (dfB b0 b1 b2 b3 b4)).length) 0 + (lets (dfB b0 b1 b2 b3 b4)).getD (i % (lets (dfB b0 b1 b2 b3 b4)).length) 0)) && decide ((lets (dfB b0 b1 b2 b3 b4)).length ≤ 10) && (List.range 10).all (fun i => decide ((lets (dfB b0 b1 b2 b3 b4)).length ≤ i) || (decide ((lets (dfB b0 b1 b2 b3 b4)).getD i 0 < 10) && dfB b0 b1 b2 b3 b4 ((lets (dfB b0 b1 b2 b3 b4)).getD i 0 / 2)))
set_option maxRecDepth 100000 in
set_option maxHeartbeats 4000000 in
theorem factW_all : ∀ b0 b1 b2 b3 b4 : Bool, factW b0 b1 b2 b3 b4 = true := by decide +kernel
theorem WL_1 (df : Nat → Bool) : WL df 1 = lets df := by
  have h := factW_all (df 0) (df 1) (df 2) (df 3) (df 4)
  simp only [factW, Bool.and_eq_true, beq_iff_eq] at h
  rw [WL_B, lets_B]; exact h.1.1.1.1
theorem WL_2 (df : Nat → Bool) : (WL df 2).length = (lets df).length * (lets df).length := by
  have h := factW_all (df 0) (df 1) (df 2) (df 3) (df 4)
  simp only [factW, Bool.and_eq_true, beq_iff_eq] at h
  rw [WL_B, lets_B]; exact h.1.1.1.2
theorem lets_le (df : Nat → Bool) : (lets df).length ≤ 10 := by
  have h := factW_all (df 0) (df 1) (df 2) (df 3) (df 4)
  simp only [factW, Bool.and_eq_true, decide_eq_true_eq] at h
  rw [lets_B]; exact h.1.2
theorem WL_3 (df : Nat → Bool) {i : Nat} (hi : i < (WL df 2).length) : (WL df 2).getD i 0 = 10 * (lets df).getD (i / (lets df).length) 0 + (lets df).getD (i % (lets df).length) 0 := by
  have h := factW_all (df 0) (df 1) (df 2) (df 3) (df 4)
  simp only [factW, Bool.and_eq_true, List.all_eq_true, List.mem_range, Bool.or_eq_true, decide_eq_true_eq, beq_iff_eq] at h
  have hl := lets_le df
  have h2 := WL_2 df
  have h3 : (lets df).length * (lets df).length ≤ 10 * 10 := Nat.mul_le_mul hl hl
  rw [WL_B] at hi h2 ⊢
  rw [lets_B]
  exact (h.1.1.2 i (by omega)).resolve_left (by omega)
theorem lets_ok (df : Nat → Bool) {i : Nat} (hi : i < (lets df).length) : okL df ((lets df).getD i 0) := by
  have h := factW_all (df 0) (df 1) (df 2) (df 3) (df 4)
  simp only [factW, Bool.and_eq_true, List.all_eq_true, List.mem_range, Bool.or_eq_true, decide_eq_true_eq] at h
  have hl := lets_le df
  have hi2 := hi
  rw [lets_B] at hi2
  have h2 := (h.2 i (by omega)).resolve_left (by omega)
  rw [← lets_B] at h2
  refine ⟨h2.1, ?_⟩
  rw [dfB_eq df _ (by omega)]; exact h2.2
def efS (ef : Nat → Nat) (m u : Nat) : Nat := if m = 1 then ef u else cmp (ef (u / 10)) (ef (u % 10))
def mvC (x y : Nat) : Nat → Nat
  | 0 => 0
  | i + 1 => mvC x y i + if imgN y (imgN x i) = imgN x (imgN y i) then 0 else 1
theorem mvC_le (x y : Nat) : ∀ i, mvC x y i ≤ i
  | 0 => Nat.le_refl _
  | i + 1 => by have := mvC_le x y i; rw [mvC]; split <;> omega
theorem mvC_n {n x y : Nat} (hx : isPk n x) (hy : isPk n y) : ∀ k, n + k ≤ 7 → mvC x y (n + k) = mvC x y n
  | 0, _ => rfl
  | k + 1, h => by
    show mvC x y (n + k) + (if imgN y (imgN x (n + k)) = imgN x (imgN y (n + k)) then 0 else 1) = _
    rw [mvC_n hx hy k (by omega), hx.2.2.2 _ (show n + k < 7 by omega) (by omega), hy.2.2.2 _ (show n + k < 7 by omega) (by omega), hx.2.2.2 _ (show n + k < 7 by omega) (by omega), if_pos rfl]; rfl
/-- the first pair of the two lists -/
def fnd (T : Nat → Nat → Bool) (K : List Nat) : List Nat → Option (Nat × Nat)
  | [] => none
  | u :: us => match K.find? (T u) with
    | some v => some (u, v)
    | none => fnd T K us
def tst (S : Sit) (y2 : Int32) (m k u v : Nat) : Bool := decide (nI (mvC (efS S.ef m u) (efS S.ef k v) 7) = y2)
theorem q_movedBy {x y : Nat} (hx : x < 2097152) (hy : y < 2097152) {post : Int32 → Prop} (hp : post (nI (mvC x y 7))) : P_X0_movedBy (nI x) (nI y) post := by
  unfold P_X0_movedBy
  have key : ∀ k i, i + k = 7 → L_X0_movedBy_4 post (k + 1) (nI x) (nI y) (nI (mvC x y i)) (nI i) := by
    intro k
    induction k with
    | zero =>
      intro i hi
      show B_X0_movedBy_4 _ _ _ _ _ _
      unfold B_X0_movedBy_4
      have : i = 7 := by omega
      subst this
      exact br_t (by simp (disch := omega) only [fa_lit, nI_add, pk_mul, nI_ltI, nI_leI, nI_eq] <;> omega) hp
    | succ k ih =>
      intro i hi
      show B_X0_movedBy_4 _ _ _ _ _ _
      unfold B_X0_movedBy_4 B_X0_movedBy_42
      have l1 := imgN_lt x i
      have l2 := imgN_lt y i
      have l3 := imgN_lt y (imgN x i)
      have l4 := imgN_lt x (imgN y i)
      refine br_f (by simp (disch := omega) only [fa_lit, nI_add, pk_mul, nI_ltI, nI_leI, nI_eq] <;> omega) (q_imageOf (by omega) (by omega) (q_imageOf (by omega) (by omega) (q_imageOf (by omega) (by omega) (q_imageOf (by omega) (by omega) ?_))))
      have hn := ih (i + 1) (by omega)
      rw [mvC] at hn
      by_cases e : imgN y (imgN x i) = imgN x (imgN y i)
      · rw [if_pos e] at hn
        refine br_t (by rw [e]) ?_
        rw [nI_1]; exact hn
      · rw [if_neg e] at hn
        refine br_f (by simp (disch := omega) only [fa_lit, nI_add, pk_mul, nI_ltI, nI_leI, nI_eq] <;> omega) ?_
        rw [nI_1, nI_1]; exact hn
  exact ⟨8, key 7 0 rfl⟩
/-- what stands in the rows of the search -/
def SR (S : Sit) (σ : Dz) : Prop := gz_i σ 9 2 = nI (lets S.df).length ∧ (∀ i, i < (lets S.df).length → gz_i σ 10 i = nI ((lets S.df).getD i 0)) ∧ (∀ i, i < (lets S.df).length → gz_i σ 11 i = nI (S.ef ((lets S.df).getD i 0))) ∧ ∀ i j, i < (lets S.df).length → j < (lets S.df).length → gz_i σ 11 ((lets S.df).length + (lets S.df).length * i + j) = nI (cmp (S.ef ((lets S.df).getD i 0)) (S.ef ((lets S.df).getD j 0)))
theorem q_listWords {A : Abs} (o : okA A) {σ : Dz} (c : CSit 17 A.S σ) {post : Dz → Prop} (hp : ∀ σ', eqO 9 12 σ σ' → SR A.S σ' → post σ') : P_X0_listWords σ 17 post := by
  unfold P_X0_listWords
  have hl := lets_le A.S.df
  generalize hL : lets A.S.df = Ls at hl
  have hok : ∀ i, i < Ls.length → A.S.ef (Ls.getD i 0) < 2097152 := fun i hi => by
    rw [← hL] at hi ⊢
    exact (o.S.pk _ (lets_ok A.S.df hi).1).1
  have key2 : ∀ k a σ', a + k = Ls.length → eqO 9 12 σ σ' → gz_i σ' 9 2 = nI Ls.length → (∀ i, i < Ls.length → gz_i σ' 10 i = nI (Ls.getD i 0)) → (∀ i, i < Ls.length → gz_i σ' 11 i = nI (A.S.ef (Ls.getD i 0))) → (∀ i j, i < a → j < Ls.length → gz_i σ' 11 (Ls.length + Ls.length * i + j) = nI (cmp (A.S.ef (Ls.getD i 0)) (A.S.ef (Ls.getD j 0)))) → L_X0_listWords_82 17 post (k + 1) σ' (nI (Ls.length + Ls.length * a)) (nI a) := by
    intro k
    induction k with
    | zero =>
      intro a σ' ha e t1 t2 t3 t4
      show B_X0_listWords_82 _ _ _ _ _ _
      unfold B_X0_listWords_82
      rw [t1]
      have : a = Ls.length := by omega
      subst this
      refine br_t (by simp (disch := omega) only [fa_lit, nI_add, pk_mul, nI_ltI, nI_leI, nI_eq] <;> omega) (hp σ' e ?_)
      unfold SR
      rw [hL]
      exact ⟨t1, t2, t3, t4⟩
    | succ k ih =>
      intro a σ' ha e t1 t2 t3 t4
      show B_X0_listWords_82 _ _ _ _ _ _
      unfold B_X0_listWords_82
      rw [t1]
      have hla : Ls.length * a + Ls.length ≤ 10 * 10 := by
        have h1 : Ls.length * (a + 1) ≤ Ls.length * Ls.length := Nat.mul_le_mul_left _ (by omega)
        have h2 : Ls.length * Ls.length ≤ 10 * 10 := Nat.mul_le_mul hl hl
        rw [Nat.mul_succ] at h1; omega
      refine br_f (by simp (disch := omega) only [fa_lit, nI_add, pk_mul, nI_ltI, nI_leI, nI_eq] <;> omega) ⟨Ls.length + 1, ?_⟩
      have key3 : ∀ q b σ2, b + q = Ls.length → eqO 9 12 σ σ2 → gz_i σ2 9 2 = nI Ls.length → (∀ i, i < Ls.length → gz_i σ2 10 i = nI (Ls.getD i 0)) → (∀ i, i < Ls.length → gz_i σ2 11 i = nI (A.S.ef (Ls.getD i 0))) → (∀ i j, (i < a ∧ j < Ls.length) ∨ (i = a ∧ j < b) → gz_i σ2 11 (Ls.length + Ls.length * i + j) = nI (cmp (A.S.ef (Ls.getD i 0)) (A.S.ef (Ls.getD j 0)))) → L_X0_listWords_93 17 post (L_X0_listWords_82 17 post (k + 1)) (q + 1) σ2 (nI (Ls.length + Ls.length * a + b)) (nI a) (nI b) := by
        intro q
        induction q with
        | zero =>
          intro b σ2 hb e2 u1 u2 u3 u4
          show B_X0_listWords_93 _ _ _ _ _ _ _ _
          unfold B_X0_listWords_93 B_X0_listWords_142
          rw [u1, nI_1]
          have : b = Ls.length := by omega
          subst this
          refine br_t (by simp (disch := omega) only [fa_lit, nI_add, pk_mul, nI_ltI, nI_leI, nI_eq] <;> omega) ?_
          rw [show Ls.length + Ls.length * a + Ls.length = Ls.length + Ls.length * (a + 1) by rw [Nat.mul_succ]; omega]
          exact ih (a + 1) σ2 (by omega) e2 u1 u2 u3 (fun i j hi hj => u4 i j (by omega))
        | succ q ih2 =>
          intro b σ2 hb e2 u1 u2 u3 u4
          show B_X0_listWords_93 _ _ _ _ _ _ _ _
          unfold B_X0_listWords_93
          rw [u1, nI_clamp (by omega), nI_clamp (by omega), u3 a (by omega), u3 b (by omega)]
          have x1 := hok a (by omega)
          have x2 := hok b (by omega)
          refine br_f (by simp (disch := omega) only [fa_lit, nI_add, pk_mul, nI_ltI, nI_leI, nI_eq] <;> omega) (br_f (by simp (disch := omega) only [fa_lit, nI_add, pk_mul, nI_ltI, nI_leI, nI_eq] <;> omega) ⟨vp_in_nI (by omega) (by omega), vp_in_nI (by omega) (by omega), q_then (by omega) (by omega) ⟨vp_in_nI (by omega) (by omega), ?_⟩⟩)
          rw [nI_clamp (by omega), nI_1, nI_1]
          refine ih2 (b + 1) _ (by omega) (e2.si (by omega) (by omega) _ _) (by rw [gi_cell (by omega)]; exact u1) (fun i hi => by rw [gi_cell (by omega)]; exact u2 i hi) (fun i hi => by rw [gi_pl (by omega)]; exact u3 i hi) (fun i j hij => ?_)
          by_cases hh : i = a ∧ j = b
          · rw [hh.1, hh.2]; exact gi_same _ _ _ _
          · rw [gi_pl]
            · exact u4 i j (by omega)
            · intro z
              rcases Nat.lt_or_ge i a with h | h
              · have h3 : Ls.length * (i + 1) ≤ Ls.length * a := Nat.mul_le_mul_left _ h
                rw [Nat.mul_succ] at h3
                omega
              · have : i = a := by omega
                subst this
                omega
      have := key3 Ls.length 0 σ' (by omega) e t1 t2 t3 (fun i j hij => t4 i j (by omega) (by omega))
      exact this
  have key : ∀ k l σ', l + k = 10 → eqO 9 12 σ σ' → gz_i σ' 9 2 = nI ((List.range l).filter (fun l => A.S.df (l / 2))).length → ((List.range l).filter (fun l => A.S.df (l / 2))).length ≤ l → (∀ i, i < ((List.range l).filter (fun l => A.S.df (l / 2))).length → gz_i σ' 10 i = nI (((List.range l).filter (fun l => A.S.df (l / 2))).getD i 0) ∧ gz_i σ' 11 i = nI (A.S.ef (((List.range l).filter (fun l => A.S.df (l / 2))).getD i 0))) → L_X0_listWords_7 17 post (k + 1) σ' (nI l) := by
    intro k
    induction k with
    | zero =>
      intro l σ' hk e t1 t0 t2
      show B_X0_listWords_7 _ _ _ _ _
      unfold B_X0_listWords_7 B_X0_listWords_75
      have : l = 10 := by omega
      subst this
      have t1 : gz_i σ' 9 2 = nI (lets A.S.df).length := t1
      have t2 : ∀ i, i < (lets A.S.df).length → gz_i σ' 10 i = nI ((lets A.S.df).getD i 0) ∧ gz_i σ' 11 i = nI (A.S.ef ((lets A.S.df).getD i 0)) := t2
      rw [hL] at t1 t2
      rw [t1]
      refine br_t (by simp (disch := omega) only [fa_lit, nI_add, pk_mul, nI_ltI, nI_leI, nI_eq] <;> omega) ⟨Ls.length + 1, ?_⟩
      have := key2 Ls.length 0 σ' (by omega) e t1 (fun i hi => (t2 i hi).1) (fun i hi => (t2 i hi).2) (fun i j hi => absurd hi (by omega))
      exact this
    | succ k ih =>
      intro l σ' hk e t1 t0 t2
      show B_X0_listWords_7 _ _ _ _ _
      unfold B_X0_listWords_7 B_X0_listWords_69
      rw [nI_1, show nI l / 2 = nI (l / 2) from pk_div (d := 2) (by omega) (by omega) (by decide)]
      have hn := ih (l + 1)
      rw [List.range_succ, List.filter_append] at hn
      have ck : CSit 17 A.S σ' := c.keep fun q _ _ j => e.i (by omega) j
      refine br_f (by simp (disch := omega) only [fa_lit, nI_add, pk_mul, nI_ltI, nI_leI, nI_eq] <;> omega) (br_f (by rw [t1]; exact (by simp (disch := omega) only [fa_lit, nI_add, pk_mul, nI_ltI, nI_leI, nI_eq] <;> omega)) (q_isDefined ck (by omega) ?_))
      cases hd : A.S.df (l / 2) with
      | false =>
        rw [show List.filter (fun l => A.S.df (l / 2)) [l] = [] by simp [hd], List.append_nil] at hn
        exact br_t rfl (hn σ' (by omega) e t1 (by omega) t2)
      | true =>
        rw [show List.filter (fun l => A.S.df (l / 2)) [l] = [l] by simp [hd], List.length_append, List.length_singleton] at hn
        refine br_f (by decide) ?_
        rw [t1, nI_clamp (by omega)]
        refine ⟨vp_in_nI (by omega) (by omega), q_effectOfLetter (ck.keep fun q _ _ j => gi_cell (by omega)) (by omega) ?_⟩
        rw [gi_cell (by omega), t1, gi_cell (by omega), gi_cell (by omega), t1, nI_clamp (by omega), nI_1]
        refine ⟨vp_in_nI (by omega) (by omega), hn _ (by omega) (((e.si (by omega) (by omega) _ _).si (by omega) (by omega) _ _).si (by omega) (by omega) _ _) (gi_same _ _ _ _) (by omega) (fun i hi => ?_)⟩
        have ga := getD_app ((List.range l).filter (fun l => A.S.df (l / 2))) l i (by omega)
        rw [ga]
        by_cases h : i < ((List.range l).filter (fun l => A.S.df (l / 2))).length
        · rw [if_pos h]
          exact ⟨by rw [gi_cell (by omega), gi_cell (by omega), gi_pl (by omega)]; exact (t2 i h).1, by rw [gi_cell (by omega), gi_pl (by omega), gi_cell (by omega)]; exact (t2 i h).2⟩
        · have : i = ((List.range l).filter (fun l => A.S.df (l / 2))).length := by omega
          rw [if_neg h, this]
          exact ⟨by rw [gi_cell (by omega), gi_cell (by omega), gi_same], by rw [gi_cell (by omega), gi_same]⟩
  exact ⟨11, key 10 0 _ rfl ((eo_r 9 12 σ).si (by omega) (by omega) _ _) (gi_same _ _ _ _) (Nat.le_refl _) (fun i hi => absurd hi (Nat.not_lt_zero i))⟩
end QSearch
