/-! the table: countAt, reachable, greatestDepth, depth -/
section QTabCases
def AllF (n : Nat) (F : QL) : Prop := (0 < F.length) ∧ (F.length ≤ 5040) ∧ (topD F ≤ 5039) ∧ (∀ e, e ∈ F → e.2 ≤ topD F) ∧ (∀ e, e ∈ F → isPk n e.1) ∧ (ndQ F)
theorem AllF.ps {n : Nat} {F : QL} (h : AllF n F) : 0 < F.length := h.1
theorem AllF.le {n : Nat} {F : QL} (h : AllF n F) : F.length ≤ 5040 := h.2.1
theorem AllF.tp {n : Nat} {F : QL} (h : AllF n F) : topD F ≤ 5039 := h.2.2.1
theorem AllF.dp {n : Nat} {F : QL} (h : AllF n F) : ∀ e, e ∈ F → e.2 ≤ topD F := h.2.2.2.1
theorem AllF.pk {n : Nat} {F : QL} (h : AllF n F) : ∀ e, e ∈ F → isPk n e.1 := h.2.2.2.2.1
theorem AllF.nd {n : Nat} {F : QL} (h : AllF n F) : ndQ F := h.2.2.2.2.2
theorem all_facts {n : Nat} {S : Sit} (o : okSit n S) (h2 : 2 ≤ n) (h7 : n ≤ 7) : AllF n (allQ S.df S.ef) := by
  obtain ⟨p1, p2, p3⟩ := bfs_pk o 5040
  have hl := all_le o h2 h7
  have ht : topD (allQ S.df S.ef) = (atQ (allQ S.df S.ef) ((allQ S.df S.ef).length - 1)).2 := top_at p3
  have hd := dep_le (df := S.df) (ef := S.ef) (K := 5040) 5040 ((allQ S.df S.ef).length - 1) (by have : 0 < (allQ S.df S.ef).length := p3; omega) (by have : 0 < (allQ S.df S.ef).length := p3; show _ < (allQ S.df S.ef).length; omega)
  have hd : (atQ (allQ S.df S.ef) ((allQ S.df S.ef).length - 1)).2 ≤ (allQ S.df S.ef).length - 1 := hd
  refine ⟨p3, hl, by omega, fun e he => ?_, p1, p2⟩
  obtain ⟨i, h1, h2⟩ := mem_at he
  rw [ht, ← h2]
  exact (bfs_dep S.df S.ef 5040).1 i _ (by omega) (by show _ < (allQ S.df S.ef).length; omega)
theorem AllF.nz {n : Nat} {F : QL} (h : AllF n F) : ¬ nI F.length ≤ 0 := by
  have a := h.ps
  have b := h.le
  generalize F.length = q at a b ⊢
  rw [show (0 : Int32) = nI 0 from rfl, nI_leI (by omega) (by omega)]; omega
theorem AllF.out {n : Nat} {F : QL} (h : AllF n F) {d : Nat} (hd : topD F < d) : cntD F d = 0 := by
  unfold cntD
  rw [List.countP_eq_zero]
  intro e he z
  have := h.dp e he
  rw [beq_iff_eq] at z
  omega
theorem AllF.cnt {n : Nat} {F : QL} (h : AllF n F) (d : Nat) : cntD F d ≤ 5040 := Nat.le_trans List.countP_le_length h.le
theorem q_sizeOfLevel {A : Abs} (o : okA A) {σ : Dz} (T : CTab A.n A.S.df A.S.ef σ) {d : Nat} (hd : d < 2 ^ 31) {post : Int32 → Prop} (hp : post (nI (cntD (allQ A.S.df A.S.ef) d))) : P_X2_sizeOfLevel σ (nI d) post := by
  unfold P_X2_sizeOfLevel
  have f := all_facts o.S o.n1 o.n2
  have ft := f.tp
  refine br_f (qn_lt (by omega)) ?_
  rw [T.ll]
  by_cases h : topD (allQ A.S.df A.S.ef) < d
  · refine br_t (by simp (disch := omega) only [fa_lit, nI_add, pk_mul, nI_ltI, nI_leI, nI_eq] <;> omega) ?_
    rw [f.out h] at hp; exact hp
  · refine br_f (by simp (disch := omega) only [fa_lit, nI_add, pk_mul, nI_ltI, nI_leI, nI_eq] <;> omega) ?_
    rw [nI_1]
    refine ⟨vp_in_nI (by omega) (by omega), vp_in_nI (by omega) (by omega), ?_⟩
    have hb := cnt_bel d (allQ A.S.df A.S.ef)
    rw [nI_clamp (by omega), nI_clamp (by omega), T.st d (by omega), T.st (d + 1) (by omega), pk_sub (by omega), hb, Nat.add_sub_cancel_left]
    exact hp
theorem q_levelOf {A : Abs} (o : okA A) {σ : Dz} (T : CTab A.n A.S.df A.S.ef σ) {z : Nat} (hz : isPk A.n z) {post : Int32 → Prop} (hp : post (lvI (allQ A.S.df A.S.ef) z)) : P_X2_levelOf σ (nI z) post := by
  unfold P_X2_levelOf
  have hr := rank_lt o.n1 o.n2 hz
  have hf := fct_le o.n2
  have hz1 := hz.1
  refine q_rankOf (by omega) hz.2.1 (br_f (qn_lt (by omega)) (br_f (by simp (disch := omega) only [fa_lit, nI_add, pk_mul, nI_ltI, nI_leI, nI_eq] <;> omega) ⟨vp_in_nI (by omega) (by omega), ?_⟩))
  rw [nI_clamp (by omega), T.lv z hz]; exact hp
theorem q_presentDepth {A : Abs} (o : okA A) {σ : Dz} (c : CI A σ) {post : Int32 → Dz → Prop} {px : String → Dz → Prop} (h0 : lvI (allQ A.S.df A.S.ef) A.S.pl = -1 → ∀ σ', eqO 0 17 σ σ' → CI A σ' → px "java/util/NoSuchElementException" σ') (h1 : ¬ lvI (allQ A.S.df A.S.ef) A.S.pl = -1 → ∀ σ', eqO 0 17 σ σ' → CI A σ' → CTab A.n A.S.df A.S.ef σ' → post (lvI (allQ A.S.df A.S.ef) A.S.pl) σ') : P_X9_presentDepth σ post px := by
  unfold P_X9_presentDepth P_X4_places
  refine q_currentTable o c fun σ1 e1 c1 T1 => ?_
  rw [c1.S.pl]
  refine q_levelOf o T1 o.S.at_ ⟨fun h => h1 h σ1 e1 c1 T1, fun h => h0 h σ1 e1 c1⟩
theorem m_depthNow {A : Abs} (o : okA A) {σ : Dz} (m : MI A σ) {post : Int32 → Dz → Prop} (hp : ∀ σ', eqD σ σ' → MI A σ' → MTab A.n A.S.df A.S.ef σ' → post (lvI (allQ A.S.df A.S.ef) A.S.pl) σ') : P_X10_depthNow σ post := by
  unfold P_X10_depthNow
  refine m_tell o m fun σ1 e1 m1 T1 => m_numberOf m1.n o.n2 (y := ivN A.S.pl) (fun p hp => m1.S.to p hp) ?_
  have hN := num_lt o.n2 (ivN A.S.pl)
  refine ⟨vp_in_nI hN (by omega), ?_⟩
  rw [nI_clamp (by omega), T1.lv _ o.S.at_]
  exact hp σ1 e1 m1 T1
theorem cs_reachable {L : Nat} {xs : Nat → Int32} {rc : Dz → Int32 → Prop} {σ : Dz} {y5 : Int32} (hI : Inv σ) (hr : ∀ σ', Inv σ' → rc σ' (y5 + 4)) : B_L_law_1470 L xs rc σ y5 := by
  unfold B_L_law_1470 P_X9_reachable P_X10_reachable P_X2_size P_X10_done
  obtain ⟨A, o, c, m⟩ := hI
  refine q_currentTable o c fun σ1 e1 c1 T1 => m_tell o (m.byC (e1.mono (by omega) (by omega))) fun σ2 e2 m2 T2 => ?_
  rw [T1.sz, T2.sz]
  exact br_t rfl (hr _ ⟨A, o, (c1.byM e2.eo).byM ((eo_r 43 66 _).si (by omega) (by omega) _ _), m2.thr _⟩)
theorem cs_greatest {L : Nat} {xs : Nat → Int32} {rc : Dz → Int32 → Prop} {σ : Dz} {y5 : Int32} (hI : Inv σ) (hr : ∀ σ', Inv σ' → rc σ' (y5 + 4)) : B_L_law_1483 L xs rc σ y5 := by
  unfold B_L_law_1483 P_X9_greatestDepth P_X10_greatestDepth P_X2_lastLevel P_X10_done
  obtain ⟨A, o, c, m⟩ := hI
  refine q_currentTable o c fun σ1 e1 c1 T1 => m_tell o (m.byC (e1.mono (by omega) (by omega))) fun σ2 e2 m2 T2 => ?_
  rw [T1.ll, T2.ll]
  exact br_t rfl (hr _ ⟨A, o, (c1.byM e2.eo).byM ((eo_r 43 66 _).si (by omega) (by omega) _ _), m2.thr _⟩)
theorem cs_countAt {L : Nat} {xs : Nat → Int32} {rc : Dz → Int32 → Prop} {σ : Dz} {y5 : Int32} (g1 : vp_in (y5 + 1) L) (hI : Inv σ) (hr : ∀ σ', Inv σ' → rc σ' (y5 + 4)) : B_L_law_1445 L xs rc σ y5 := by
  unfold B_L_law_1445 P_X9_countAt P_X10_countAt P_X10_done
  refine ⟨g1, ?_⟩
  generalize xs (y5 + 1).toNatClampNeg = x
  obtain ⟨A, o, c, m⟩ := hI
  have f := all_facts o.S o.n1 o.n2
  have ft := f.tp
  refine q_currentTable o c fun σ1 e1 c1 T1 => ?_
  have fin : ∀ σ2, eqD σ1 σ2 → MI A σ2 → rc (sz_i σ2 43 0 0) (y5 + 4) := fun σ2 e2 m2 => hr _ ⟨A, o, (c1.byM e2.eo).byM ((eo_r 43 66 _).si (by omega) (by omega) _ _), m2.thr _⟩
  have m1 := m.byC (e1.mono (by omega) (by omega))
  rcases sl_cases x with h | ⟨d, hd, rfl⟩
  · refine br_t h ⟨g1, m_tell o m1 fun σ2 e2 m2 T2 => ?_⟩
    exact in_no (lo := 0) (hi := 5039) (Or.inl h) (br_t rfl (br_t rfl (fin σ2 e2 m2)))
  · refine q_sizeOfLevel o T1 hd ⟨g1, m_tell o m1 fun σ2 e2 m2 T2 => ?_⟩
    by_cases h5 : d ≤ 5039
    · refine in_yes (lo := 0) (hi := 5039) (Nat.zero_le _) h5 (by decide) (br_f (by decide) ⟨vp_in_nI (by omega) (by omega), ?_⟩)
      rw [nI_clamp (by omega), T2.ct d (by omega)]
      exact br_t rfl (fin σ2 e2 m2)
    · refine in_no (lo := 0) (hi := 5039) (Or.inr ?_) (br_t rfl ?_)
      · rw [nI_ltI (by decide) hd]; omega
      · rw [f.out (by omega)]; exact br_t rfl (fin σ2 e2 m2)
theorem cs_depth {L : Nat} {xs : Nat → Int32} {rc : Dz → Int32 → Prop} {σ : Dz} {y5 : Int32} (hI : Inv σ) (hr : ∀ σ', Inv σ' → rc σ' (y5 + 4)) : B_L_law_1345 L xs rc σ y5 := by
  unfold B_L_law_1345 P_L_depth P_X9_depth P_X10_depth P_X10_done P_X10_fails
  obtain ⟨A, o, c, m⟩ := hI
  refine q_presentDepth o c (fun h σ1 e1 c1 => ⟨rfl, ?_⟩) (fun h σ1 e1 c1 _ => ?_)
  · refine m_depthNow o (m.byC (e1.mono (by omega) (by omega))) fun σ2 e2 m2 T2 => bn_t h ?_
    exact bad_i o (c1.byM e2.eo) m2 (by decide) hr
  · refine m_depthNow o ((m.byC (e1.mono (by omega) (by omega))).sl _ _) fun σ2 e2 m2 T2 => bn_f h ?_
    refine both_i o c1 (m2.thr 0) (e2.eo.si (by omega) (by omega) _ _) (gi_same _ _ _ _) hr
end QTabCases
