/-! findCommutator -/
section QFindCase
theorem m_finds {A : Abs} (o : okA A) {σ : Dz} (mi : MI A σ) {m k : Nat} (hm : m = 1 ∨ m = 2) (hk : k = 1 ∨ k = 2) {x1 y2 : Int32} {post : Int32 → Dz → Prop} (h0 : fnd (tst A.S y2 m k) (WL A.S.df k) (WL A.S.df m) = none → post 0 σ) (h1 : ∀ u v, fnd (tst A.S y2 m k) (WL A.S.df k) (WL A.S.df m) = some (u, v) → ∀ σ', eqS 57 61 σ σ' → isMd (0 + m + k + m + k) (cmD m u k v) false σ' → post 1 σ') : P_X10_finds σ x1 y2 (nI m) (nI k) post := by
  have rm : rg m ≤ 100 := by unfold rg; split <;> omega
  have rk : rg k ≤ 100 := by unfold rg; split <;> omega
  have rk0 : 0 < rg k := by unfold rg; split <;> omega
  have main : ∃ n, L_X10_finds_32 post n σ y2 (nI m) (nI k) (nI (rg m)) (nI (rg k)) 0 := by
    have key : ∀ q u, u + q = rg m → (fnd (tst A.S y2 m k) (WL A.S.df k) ((List.range' u q).filter (shOK A.S.df m)) = none → post 0 σ) → (∀ u' v, fnd (tst A.S y2 m k) (WL A.S.df k) ((List.range' u q).filter (shOK A.S.df m)) = some (u', v) → ∀ σ', eqS 57 61 σ σ' → isMd (0 + m + k + m + k) (cmD m u' k v) false σ' → post 1 σ') → L_X10_finds_32 post (q + 1) σ y2 (nI m) (nI k) (nI (rg m)) (nI (rg k)) (nI u) := by
      intro q
      induction q with
      | zero =>
        intro u hu g0 g1
        show B_X10_finds_32 _ _ _ _ _ _ _ _ _
        unfold B_X10_finds_32
        exact br_t (by simp (disch := omega) only [fa_lit, nI_add, pk_mul, nI_ltI, nI_leI, nI_eq] <;> omega) (g0 rfl)
      | succ q ih =>
        intro u hu g0 g1
        show B_X10_finds_32 _ _ _ _ _ _ _ _ _
        unfold B_X10_finds_32
        refine br_f (by simp (disch := omega) only [fa_lit, nI_add, pk_mul, nI_ltI, nI_leI, nI_eq] <;> omega) ?_
        rw [List.range'_succ, List.filter_cons] at g0 g1
        cases hs : shOK A.S.df m u with
        | false =>
          rw [hs, if_neg (by decide)] at g0 g1
          refine ⟨1, ?_⟩
          show B_X10_finds_42 _ _ _ _ _ _ _ _ _ _ _
          unfold B_X10_finds_42 B_X10_finds_131
          refine br_f (by simp (disch := omega) only [fa_lit, nI_add, pk_mul, nI_ltI, nI_leI, nI_eq] <;> omega) (m_isShort mi hm (by omega) ?_)
          rw [hs, nI_1]
          exact br_t rfl (ih (u + 1) (by omega) g0 g1)
        | true =>
          rw [hs, if_pos rfl, fnd] at g0 g1
          have ou := sh_ok hm (show u < rg m by omega) hs
          have inner : ∀ r v, v + r = rg k → (((List.range' v r).filter (shOK A.S.df k)).find? (tst A.S y2 m k u) = (WL A.S.df k).find? (tst A.S y2 m k u)) → L_X10_finds_42 post (L_X10_finds_32 post (q + 1)) (r + 1) σ y2 (nI m) (nI k) (nI (rg m)) (nI (rg k)) (nI u) (nI v) := by
            intro r
            induction r with
            | zero =>
              intro v hv hf
              show B_X10_finds_42 _ _ _ _ _ _ _ _ _ _ _
              unfold B_X10_finds_42 B_X10_finds_131
              have hf : (WL A.S.df k).find? (tst A.S y2 m k u) = none := hf.symm
              rw [hf] at g0 g1
              refine br_t (by simp (disch := omega) only [fa_lit, nI_add, pk_mul, nI_ltI, nI_leI, nI_eq] <;> omega) ?_
              rw [nI_1]
              exact ih (u + 1) (by omega) g0 g1
            | succ r ih2 =>
              intro v hv hf
              show B_X10_finds_42 _ _ _ _ _ _ _ _ _ _ _
              unfold B_X10_finds_42 B_X10_finds_125
              refine br_f (by simp (disch := omega) only [fa_lit, nI_add, pk_mul, nI_ltI, nI_leI, nI_eq] <;> omega) (m_isShort mi hm (by omega) ?_)
              rw [hs]
              refine br_f (by decide) (m_isShort mi hk (by omega) ?_)
              rw [List.range'_succ, List.filter_cons] at hf
              cases hs2 : shOK A.S.df k v with
              | false =>
                rw [hs2, if_neg (by decide)] at hf
                refine br_t rfl ?_
                rw [nI_1]
                exact ih2 (v + 1) (by omega) hf
              | true =>
                rw [hs2, if_pos rfl, List.find?_cons] at hf
                have ov := sh_ok hk (show v < rg k by omega) hs2
                refine br_f (by decide) (m_movedBy o mi hm hk (by omega) (by omega) ou ov ?_)
                by_cases ht : nI (mvC (efS A.S.ef m u) (efS A.S.ef k v) 7) = y2
                · rw [show tst A.S y2 m k u v = true from decide_eq_true ht] at hf
                  refine bn_t ht ?_
                  rw [← hf] at g1
                  refine m_clr (A := A) fun τ1 e1 w1 => m_comesShort hm (by omega) (w1 (fun _ => 0)) (by omega) false fun τ2 e2 w2 => m_comesShort hk (by omega) w2 (by omega) false fun τ3 e3 w3 => m_comesShort hm (by omega) w3 (by omega) true fun τ4 e4 w4 => m_comesShort hk (by omega) w4 (by omega) true fun τ5 e5 w5 => ?_
                  exact g1 u v rfl τ5 ((((e1.tr (e2.s.mono (by omega) (by omega))).tr (e3.s.mono (by omega) (by omega))).tr (e4.s.mono (by omega) (by omega))).tr (e5.s.mono (by omega) (by omega))) w5
                · rw [show tst A.S y2 m k u v = false from decide_eq_false ht] at hf
                  refine bn_f ht ?_
                  rw [nI_1]
                  exact ih2 (v + 1) (by omega) hf
          refine ⟨rg k + 1, inner (rg k) 0 (by omega) ?_⟩
          unfold WL
          rw [List.range_eq_range']
    refine ⟨rg m + 1, key (rg m) 0 (by omega) ?_ ?_⟩
    · rw [← List.range_eq_range']; exact h0
    · rw [← List.range_eq_range']; exact h1
  unfold P_X10_finds B_X10_finds_12 B_X10_finds_27
  rcases hm with rfl | rfl
  · refine bn_t rfl ?_
    rcases hk with rfl | rfl
    · exact bn_t rfl main
    · exact bn_f (by decide) main
  · refine bn_f (by decide) ?_
    rcases hk with rfl | rfl
    · exact bn_t rfl main
    · exact bn_f (by decide) main
theorem fnd_mem {T : Nat → Nat → Bool} {K : List Nat} : ∀ {W : List Nat} {u v : Nat}, fnd T K W = some (u, v) → u ∈ W ∧ v ∈ K ∧ T u v = true
  | [], u, v, h => by cases h
  | w :: W, u, v, h => by
    rw [fnd] at h
    split at h
    · rename_i x hx
      cases h
      exact ⟨List.mem_cons_self, List.mem_of_find?_eq_some hx, List.find?_some hx⟩
    · have := fnd_mem h
      exact ⟨List.mem_cons_of_mem _ this.1, this.2⟩
theorem mem_WL {df : Nat → Bool} {m u : Nat} (hm : m = 1 ∨ m = 2) (h : u ∈ WL df m) : okU df m u ∧ u < 100 := by
  obtain ⟨h1, h2⟩ := List.mem_filter.mp h
  have h3 := List.mem_range.mp h1
  refine ⟨sh_ok hm h3 h2, ?_⟩
  unfold rg at h3; split at h3 <;> omega
theorem wd_ok {df : Nat → Bool} {m u : Nat} (hm : m = 1 ∨ m = 2) (h : okU df m u) : ∀ i, i < m → okL df (wdF m u i) := by
  intro i hi
  unfold wdF
  rcases hm with rfl | rfl
  · exact h.1 rfl
  · rw [if_neg (by decide)]
    split
    · exact (h.2 rfl).1
    · exact (h.2 rfl).2
theorem bw_ok {df : Nat → Bool} {m u : Nat} (hm : m = 1 ∨ m = 2) (h : okU df m u) : ∀ i, i < m → okL df (bwF m u i) := fun i hi => (wd_ok hm h (m - 1 - i) (by omega)).inv
theorem fnd_far {S : Sit} {y2 : Int32} (h : y2 < 0 ∨ (7 : Int32) < y2) {m k : Nat} : fnd (tst S y2 m k) (WL S.df k) (WL S.df m) = none := by
  cases e : fnd (tst S y2 m k) (WL S.df k) (WL S.df m) with
  | none => rfl
  | some q =>
    obtain ⟨u, v⟩ := q
    have ht := of_decide_eq_true (fnd_mem e).2.2
    have hl := mvC_le (efS S.ef m u) (efS S.ef k v) 7
    rw [← ht] at h
    rcases h with h | h
    · exact absurd h (qn_lt (by omega))
    · rw [show (7 : Int32) = nI 7 from rfl, nI_ltI (by decide) (by omega)] at h; omega
/-- the class's four searches -/
theorem c_find {A : Abs} (o : okA A) {σ : Dz} (c : CI A σ) {y2 : Int32} {post : Int32 → Dz → Prop} (h0 : (∀ m k, (m = 1 ∨ m = 2) → (k = 1 ∨ k = 2) → fnd (tst A.S y2 m k) (WL A.S.df k) (WL A.S.df m) = none) → ∀ σ', eqO 9 12 σ σ' → post 0 σ') (h1 : ∀ m k u v, (m = 1 ∨ m = 2) → (k = 1 ∨ k = 2) → (∀ m' k', (m' = 1 ∨ m' = 2) → (k' = 1 ∨ k' = 2) → 2 * m' + k' < 2 * m + k → fnd (tst A.S y2 m' k') (WL A.S.df k') (WL A.S.df m') = none) → fnd (tst A.S y2 m k) (WL A.S.df k) (WL A.S.df m) = some (u, v) → ∀ σ1 σ', eqO 9 12 σ σ1 → eqO 39 41 σ1 σ' → isWd 39 (0 + m + k + m + k) (cmD m u k v) σ' → post 1 σ') : P_X0_find σ 17 39 y2 post := by
  unfold P_X0_find
  by_cases hn : y2 < 0
  · exact br_t hn (h0 (fun m k _ _ => fnd_far (Or.inl hn)) σ (eo_r _ _ _))
  · refine br_f hn ?_
    by_cases h7 : y2 ≤ 7
    · refine br_t h7 (q_listWords o c.S fun σ1 e1 s1 => ?_)
      have wr : ∀ m k u v, (m = 1 ∨ m = 2) → (k = 1 ∨ k = 2) → (∀ m' k', (m' = 1 ∨ m' = 2) → (k' = 1 ∨ k' = 2) → 2 * m' + k' < 2 * m + k → fnd (tst A.S y2 m' k') (WL A.S.df k') (WL A.S.df m') = none) → fnd (tst A.S y2 m k) (WL A.S.df k) (WL A.S.df m) = some (u, v) → ∀ i j, i < (WL A.S.df m).length → (WL A.S.df m).getD i 0 = u → j < (WL A.S.df k).length → (WL A.S.df k).getD j 0 = v → B_X0_find_57 17 39 post (sz_i (sz_i σ1 9 3 (nI (stN (lets A.S.df).length m + i))) 9 4 (nI (stN (lets A.S.df).length k + j))) := by
        intro m k u v hm hk hb hf i j hi eu hj ev
        have s2 : SR A.S (sz_i (sz_i σ1 9 3 (nI (stN (lets A.S.df).length m + i))) 9 4 (nI (stN (lets A.S.df).length k + j))) := ⟨by rw [gi_pl (by omega), gi_pl (by omega)]; exact s1.1, fun i hi => by rw [gi_cell (by omega), gi_cell (by omega)]; exact s1.2.1 i hi, fun i hi => by rw [gi_cell (by omega), gi_cell (by omega)]; exact s1.2.2.1 i hi, fun i j hi hj => by rw [gi_cell (by omega), gi_cell (by omega)]; exact s1.2.2.2 i j hi hj⟩
        refine q_writeAll s2 hm hk hi hj (by rw [gi_pl (by omega), gi_same]) (gi_same _ _ _ _) fun σ3 e3 w3 => ?_
        rw [eu, ev] at w3
        exact h1 m k u v hm hk hb hf _ σ3 ((e1.si (by omega) (by omega) _ _).si (by omega) (by omega) _ _) e3 w3
      refine q_findAmong (m := 1) (k := 1) o s1 (Or.inl rfl) (Or.inl rfl) (fun n1 => bn_t rfl ?_) (fun u v hf i j a1 a2 a3 a4 => bn_f (by decide) (wr 1 1 u v (Or.inl rfl) (Or.inl rfl) (fun m' k' _ _ z => absurd z (by omega)) hf i j a1 a2 a3 a4))
      refine q_findAmong (m := 1) (k := 2) o s1 (Or.inl rfl) (Or.inr rfl) (fun n2 => bn_t rfl ?_) (fun u v hf i j a1 a2 a3 a4 => bn_f (by decide) (wr 1 2 u v (Or.inl rfl) (Or.inr rfl) (fun m' k' p1 p2 z => ?_) hf i j a1 a2 a3 a4))
      · refine q_findAmong (m := 2) (k := 1) o s1 (Or.inr rfl) (Or.inl rfl) (fun n3 => bn_t rfl ?_) (fun u v hf i j a1 a2 a3 a4 => bn_f (by decide) (wr 2 1 u v (Or.inr rfl) (Or.inl rfl) (fun m' k' p1 p2 z => ?_) hf i j a1 a2 a3 a4))
        · refine q_findAmong (m := 2) (k := 2) o s1 (Or.inr rfl) (Or.inr rfl) (fun n4 => br_t rfl ?_) (fun u v hf i j a1 a2 a3 a4 => br_f (by decide) (wr 2 2 u v (Or.inr rfl) (Or.inr rfl) (fun m' k' p1 p2 z => ?_) hf i j a1 a2 a3 a4))
          · unfold B_X0_find_62
            refine br_t rfl ⟨Or.inl rfl, h0 (fun m k p1 p2 => ?_) σ1 e1⟩
            rcases p1 with rfl | rfl <;> rcases p2 with rfl | rfl <;> assumption
          · rcases p1 with rfl | rfl <;> rcases p2 with rfl | rfl <;> first | assumption | omega
        · rcases p1 with rfl | rfl <;> rcases p2 with rfl | rfl <;> first | assumption | omega
      · rcases p1 with rfl | rfl <;> rcases p2 with rfl | rfl <;> first | assumption | omega
    · refine br_f h7 (h0 (fun m k _ _ => fnd_far (Or.inr ?_)) σ (eo_r _ _ _))
      exact fa_of_nle h7
theorem m_find {A : Abs} (o : okA A) {σ : Dz} (mi : MI A σ) {s : Nat} (hs : s < 4) {y2 : Int32} {post : Int32 → Dz → Prop} (h0 : (∀ m k, (m = 1 ∨ m = 2) → (k = 1 ∨ k = 2) → fnd (tst A.S y2 m k) (WL A.S.df k) (WL A.S.df m) = none) → post 0 (sz_i σ 43 0 2)) (h1 : ∀ m k u v, (m = 1 ∨ m = 2) → (k = 1 ∨ k = 2) → (∀ m' k', (m' = 1 ∨ m' = 2) → (k' = 1 ∨ k' = 2) → 2 * m' + k' < 2 * m + k → fnd (tst A.S y2 m' k') (WL A.S.df k') (WL A.S.df m') = none) → fnd (tst A.S y2 m k) (WL A.S.df k) (WL A.S.df m) = some (u, v) → ∀ σ', MI (withS A (setW A.S s (0 + m + k + m + k) (cmD m u k v))) σ' → eqO 43 66 σ σ' → gz_i σ' 43 0 = 0 → post (nI (0 + m + k + m + k)) σ') : P_X10_findCommutator σ (nI s) y2 post := by
  unfold P_X10_findCommutator
  refine slot_m hs (bn_f (by decide) ?_)
  have kp : ∀ m k u v, (m = 1 ∨ m = 2) → (k = 1 ∨ k = 2) → (∀ m' k', (m' = 1 ∨ m' = 2) → (k' = 1 ∨ k' = 2) → 2 * m' + k' < 2 * m + k → fnd (tst A.S y2 m' k') (WL A.S.df k') (WL A.S.df m') = none) → fnd (tst A.S y2 m k) (WL A.S.df k) (WL A.S.df m) = some (u, v) → ∀ τ, eqS 57 61 σ τ → isMd (0 + m + k + m + k) (cmD m u k v) false τ → B_X10_findCommutator_57 post τ (nI s) := by
    intro m k u v hm hk hb hf τ e w
    unfold B_X10_findCommutator_57 B_X10_findCommutator_62
    exact br_f (by decide) (m_keep o mi e hs w fun σ6 m6 e6 h6 => h1 m k u v hm hk hb hf σ6 m6 e6 h6)
  refine m_finds (m := 1) (k := 1) o mi (Or.inl rfl) (Or.inl rfl) (fun n1 => bn_t rfl ?_) (fun u v hf τ e w => bn_f (by decide) (kp 1 1 u v (Or.inl rfl) (Or.inl rfl) (fun m' k' _ _ z => absurd z (by omega)) hf τ e w))
  refine m_finds (m := 1) (k := 2) o mi (Or.inl rfl) (Or.inr rfl) (fun n2 => bn_t rfl ?_) (fun u v hf τ e w => bn_f (by decide) (kp 1 2 u v (Or.inl rfl) (Or.inr rfl) (fun m' k' p1 p2 z => ?_) hf τ e w))
  · refine m_finds (m := 2) (k := 1) o mi (Or.inr rfl) (Or.inl rfl) (fun n3 => bn_t rfl ?_) (fun u v hf τ e w => bn_f (by decide) (kp 2 1 u v (Or.inr rfl) (Or.inl rfl) (fun m' k' p1 p2 z => ?_) hf τ e w))
    · refine m_finds (m := 2) (k := 2) o mi (Or.inr rfl) (Or.inr rfl) (fun n4 => br_t rfl ?_) (fun u v hf τ e w => br_f (by decide) (kp 2 2 u v (Or.inr rfl) (Or.inr rfl) (fun m' k' p1 p2 z => ?_) hf τ e w))
      · unfold B_X10_findCommutator_62
        refine br_t rfl (h0 (fun m k p1 p2 => ?_))
        rcases p1 with rfl | rfl <;> rcases p2 with rfl | rfl <;> assumption
      · rcases p1 with rfl | rfl <;> rcases p2 with rfl | rfl <;> first | assumption | omega
    · rcases p1 with rfl | rfl <;> rcases p2 with rfl | rfl <;> first | assumption | omega
  · rcases p1 with rfl | rfl <;> rcases p2 with rfl | rfl <;> first | assumption | omega
theorem cs_find {L : Nat} {xs : Nat → Int32} {rc : Dz → Int32 → Prop} {σ : Dz} {y5 : Int32} (g1 : vp_in (y5 + 1) L) (g2 : vp_in (y5 + 2) L) (hI : Inv σ) (hr : ∀ σ', Inv σ' → rc σ' (y5 + 4)) : B_L_law_1593 L xs rc σ y5 := by
  unfold B_L_law_1593 P_L_findCommutator P_X9_findCommutator
  refine ⟨g1, g2, ?_⟩
  generalize xs (y5 + 1).toNatClampNeg = x
  generalize xs (y5 + 2).toNatClampNeg = z
  obtain ⟨A, o, c, m⟩ := hI
  rcases slots x with ⟨s, hs, rfl⟩ | ⟨hc, hm⟩
  · refine slot_c hs (c_find o c (fun hn σ1 e1 => bn_t rfl (Or.inr ⟨rfl, g1, g2, ?_⟩)) (fun p q u v hp hq hb hf σ0 σ1 e0 e1 w1 => bn_f (by decide) ?_))
    · refine m_find o (m.byC (e1.mono (by omega) (by omega))) hs (fun _ => bad_i o (c.keep fun k hk j => ⟨e1.i (by omega) j, e1.f (by omega) j, e1.d (by omega) j⟩) (m.byC (e1.mono (by omega) (by omega))) (by decide) hr) (fun p q u v hp hq _ hf => by rw [hn p q hp hq] at hf; cases hf)
    · have c0 : CI A σ0 := c.keep fun k hk j => ⟨e0.i (by omega) j, e0.f (by omega) j, e0.d (by omega) j⟩
      refine c_keep c0 e1 hs w1 fun σ3 c3 e3 => ⟨g1, g2, ?_⟩
      have e4 : eqO 0 43 σ σ3 := eqO.tr (e0.mono (by omega) (by omega)) e3
      refine m_find o ((m.byC e4).sl _ _) hs (fun hn => by rw [hn p q hp hq] at hf; cases hf) (fun p' q' u' v' hp' hq' hb' hf' σ6 m6 e6 h6 => ?_)
      have same : p' = p ∧ q' = q := by
        have a1 : ¬ 2 * p' + q' < 2 * p + q := fun z => by rw [hb p' q' hp' hq' z] at hf'; cases hf'
        have a2 : ¬ 2 * p + q < 2 * p' + q' := fun z => by rw [hb' p q hp hq z] at hf; cases hf
        omega
      obtain ⟨rfl, rfl⟩ := same
      rw [hf] at hf'
      cases hf'
      obtain ⟨mu, mv, -⟩ := fnd_mem hf
      obtain ⟨ou, -⟩ := mem_WL hp mu
      obtain ⟨ov, -⟩ := mem_WL hq mv
      exact both_i (o.setW (by omega) (cat_ok (P := okL A.S.df) (cat_ok (cat_ok (cat_ok (fun i hi => absurd hi (by omega)) (wd_ok hp ou)) (wd_ok hq ov)) (bw_ok hp ou)) (bw_ok hq ov))) c3 m6 e6 h6 hr
  · exact hc _ _ (Or.inl ⟨rfl, g1, g2, hm _ (bn_t rfl (bad_i o c m (by decide) hr))⟩)
end QFindCase
