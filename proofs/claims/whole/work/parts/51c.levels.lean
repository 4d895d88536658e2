/-! the class: level by level -/
section QLevelsC
theorem q_items {n : Nat} {S : Sit} (o : okSit n S) (h2 : 2 ≤ n) (h7 : n ≤ 7) {s e lv k1 : Nat} (he : e = (bfs S.df S.ef s).length) (he2 : e ≤ 5040) (hlv : lv + 1 ≤ 5040) (hat : ∀ j, s ≤ j → j < e → (atQ (bfs S.df S.ef s) j).2 = lv) {post : Dz → Prop} {rc24 : Dz → Int32 → Int32 → Int32 → Prop} : ∀ m i σ, i + m = e → s ≤ i → CQ n (bfs S.df S.ef i) σ → TQ (turnsN S.ef 10) σ → (∀ σ', eqR σ σ' → CQ n (bfs S.df S.ef e) σ' → B_X2_build_115 k1 post rc24 σ' (nI (fctN n)) (nI lv) (nI e)) → L_X2_build_51 k1 post rc24 (m + 1) σ (nI (fctN n)) (nI lv) (nI e) (nI i) := by
  have hf := fct_le h7
  intro m
  induction m with
  | zero =>
    intro i σ hi hs c t hr
    show B_X2_build_51 _ _ _ _ _ _ _ _ _
    unfold B_X2_build_51
    have : i = e := by omega
    subst this
    exact br_t (by simp (disch := omega) only [fa_lit, nI_add, pk_mul, nI_ltI, nI_leI, nI_eq] <;> omega) (hr σ (er_r σ) c)
  | succ m ih =>
    intro i σ hi hs c t hr
    show B_X2_build_51 _ _ _ _ _ _ _ _ _
    unfold B_X2_build_51
    have hlen := nd_le h2 h7 c.nd c.pk
    have hl2 : e ≤ (bfs S.df S.ef i).length := by rw [he]; exact bfs_len hs
    refine br_f (by simp (disch := omega) only [fa_lit, nI_add, pk_mul, nI_ltI, nI_leI, nI_eq] <;> omega) ?_
    rw [c.sz]
    by_cases hfull : fctN n ≤ (bfs S.df S.ef i).length
    · refine br_t (by simp (disch := omega) only [fa_lit, nI_add, pk_mul, nI_ltI, nI_leI, nI_eq] <;> omega) (hr σ (er_r σ) ?_)
      have := bfs_full o h2 h7 hfull (e - i)
      rw [show i + (e - i) = e by omega] at this
      rw [this]; exact c
    · refine br_f (by simp (disch := omega) only [fa_lit, nI_add, pk_mul, nI_ltI, nI_leI, nI_eq] <;> omega) ?_
      have hii : i < (bfs S.df S.ef i).length := by omega
      have hd : (atQ (bfs S.df S.ef i) i).2 = lv := by
        rw [bfs_at hs (by omega)]; exact hat i hs (by omega)
      refine ⟨(turnsN S.ef 10).length + 1, q_turns h2 h7 (turns_le S.ef 10) (fun q hq => ?_) hlv (by omega) (turnsN S.ef 10).length 0 _ σ (by omega) c t hii rfl fun σ' er c' => ?_⟩
      · obtain ⟨l, l1, l2⟩ := turns_mem hq
        rw [l2]; exact o.pk l l1
      · rw [nI_1]
        refine ih (i + 1) σ' (by omega) (by omega) ?_ (t.keep er) fun σ'' er' c'' => hr σ'' (er.tr er') c''
        rw [bfs_turns o hii, hd]
        exact c'
def LvS (df : Nat → Bool) (ef : Nat → Nat) (s lv : Nat) (σ : Dz) : Prop := (∀ j, j < s → (atQ (allQ df ef) j).2 < lv) ∧ (∀ j, s ≤ j → j < (allQ df ef).length → lv ≤ (atQ (allQ df ef) j).2) ∧ (∀ j, s ≤ j → j < (bfs df ef s).length → (atQ (allQ df ef) j).2 = lv) ∧ (lv ≤ s) ∧ (s ≤ (bfs df ef s).length) ∧ (∀ d, d ≤ lv → gz_i σ 15 d = nI (belD (allQ df ef) d)) ∧ (lv = 0 ∨ (gz_i σ 12 6 = nI (lv - 1) ∧ 0 < s ∧ (atQ (allQ df ef) (s - 1)).2 = lv - 1))
theorem LvS.lo {df : Nat → Bool} {ef : Nat → Nat} {s lv : Nat} {σ : Dz} (h : LvS df ef s lv σ) : ∀ j, j < s → (atQ (allQ df ef) j).2 < lv := h.1
theorem LvS.hi {df : Nat → Bool} {ef : Nat → Nat} {s lv : Nat} {σ : Dz} (h : LvS df ef s lv σ) : ∀ j, s ≤ j → j < (allQ df ef).length → lv ≤ (atQ (allQ df ef) j).2 := h.2.1
theorem LvS.at_ {df : Nat → Bool} {ef : Nat → Nat} {s lv : Nat} {σ : Dz} (h : LvS df ef s lv σ) : ∀ j, s ≤ j → j < (bfs df ef s).length → (atQ (allQ df ef) j).2 = lv := h.2.2.1
theorem LvS.le {df : Nat → Bool} {ef : Nat → Nat} {s lv : Nat} {σ : Dz} (h : LvS df ef s lv σ) : lv ≤ s := h.2.2.2.1
theorem LvS.ss {df : Nat → Bool} {ef : Nat → Nat} {s lv : Nat} {σ : Dz} (h : LvS df ef s lv σ) : s ≤ (bfs df ef s).length := h.2.2.2.2.1
theorem LvS.st {df : Nat → Bool} {ef : Nat → Nat} {s lv : Nat} {σ : Dz} (h : LvS df ef s lv σ) : ∀ d, d ≤ lv → gz_i σ 15 d = nI (belD (allQ df ef) d) := h.2.2.2.2.2.1
theorem LvS.ll {df : Nat → Bool} {ef : Nat → Nat} {s lv : Nat} {σ : Dz} (h : LvS df ef s lv σ) : lv = 0 ∨ (gz_i σ 12 6 = nI (lv - 1) ∧ 0 < s ∧ (atQ (allQ df ef) (s - 1)).2 = lv - 1) := h.2.2.2.2.2.2
theorem bel_thr {F : List (Nat × Nat)} {c d : Nat} (hc : c ≤ F.length) (h1 : ∀ j, j < c → (atQ F j).2 < d) (h2 : ∀ j, c ≤ j → j < F.length → d ≤ (atQ F j).2) : belD F d = c :=
  cnt_thr F c hc (fun j hj => decide_eq_true (h1 j hj)) (fun j hj hj2 => decide_eq_false (by have := h2 j hj hj2; omega))
theorem CQ.keep2 {n : Nat} {Q : List (Nat × Nat)} {σ σ' : Dz} (h : CQ n Q σ) (e5 : gz_i σ' 12 5 = gz_i σ 12 5) (e13 : ∀ j, gz_i σ' 13 j = gz_i σ 13 j) (e14 : ∀ j, gz_i σ' 14 j = gz_i σ 14 j) : CQ n Q σ' :=
  ⟨by rw [e5]; exact h.sz, fun i hi => by rw [e14]; exact h.ar i hi, fun x hx => by rw [e13]; exact h.lv x hx, h.pk, h.nd, h.dp⟩
theorem q_levels {n : Nat} {S : Sit} (o : okSit n S) (h2 : 2 ≤ n) (h7 : n ≤ 7) {k1 : Nat} {σ0 : Dz} {post : Dz → Prop} (hp : ∀ σ', eqO 12 17 σ0 σ' → CTab n S.df S.ef σ' → post σ') : ∀ m s lv σ, 5041 ≤ m + s → eqO 12 17 σ0 σ → CQ n (bfs S.df S.ef s) σ → TQ (turnsN S.ef 10) σ → LvS S.df S.ef s lv σ → L_X2_build_24 k1 post m σ (nI (fctN n)) (nI s) (nI lv) := by
  have hf := fct_le h7
  intro m
  induction m with
  | zero =>
    intro s lv σ hm e c t L
    have := nd_le h2 h7 c.nd c.pk
    have := L.ss
    omega
  | succ m ih =>
    intro s lv σ hm e c t L
    show B_X2_build_24 _ _ _ _ _ _ _
    unfold B_X2_build_24
    have hlen := nd_le h2 h7 c.nd c.pk
    have hss := L.ss
    have hle := L.le
    by_cases hdone : (bfs S.df S.ef s).length ≤ s
    · have hF : allQ S.df S.ef = bfs S.df S.ef s := by
        have := bfs_end hdone (5040 - s)
        rw [show s + (5040 - s) = 5040 by omega] at this
        exact this
      have h0 := (bfs_pk o s).2.2
      have hpost : post σ := by
        refine hp σ e ?_
        rcases L.ll with z | ⟨z1, z2, z3⟩
        · exact absurd (L.lo 0 (by omega)) (by omega)
        · have hlv : 0 < lv := by have := L.lo (s - 1) (by omega); omega
          have htop : topD (allQ S.df S.ef) = lv - 1 := by
            rw [top_at (by rw [hF]; exact h0), ← z3, hF, show (bfs S.df S.ef s).length - 1 = s - 1 by omega]
          refine ⟨by rw [hF]; exact c.sz, by rw [htop]; exact z1, fun d hd => L.st d (by omega), fun x hx => by rw [hF]; exact c.lv x hx⟩
      rw [c.sz]
      by_cases h5 : 5040 ≤ lv
      · exact br_t (by simp (disch := omega) only [fa_lit, nI_add, pk_mul, nI_ltI, nI_leI, nI_eq] <;> omega) hpost
      · exact br_f (by simp (disch := omega) only [fa_lit, nI_add, pk_mul, nI_ltI, nI_leI, nI_eq] <;> omega) (br_t (by simp (disch := omega) only [fa_lit, nI_add, pk_mul, nI_ltI, nI_leI, nI_eq] <;> omega) hpost)
    · have hs5 : s ≤ 5040 := by omega
      have hat : ∀ j, s ≤ j → j < (bfs S.df S.ef s).length → (atQ (bfs S.df S.ef s) j).2 = lv := fun j a b => by rw [← all_at hs5 b]; exact L.at_ j a b
      rw [c.sz]
      refine br_f (by simp (disch := omega) only [fa_lit, nI_add, pk_mul, nI_ltI, nI_leI, nI_eq] <;> omega) (br_f (by simp (disch := omega) only [fa_lit, nI_add, pk_mul, nI_ltI, nI_leI, nI_eq] <;> omega) ⟨(bfs S.df S.ef s).length - s + 1, q_items o h2 h7 rfl (by omega) (by omega) hat ((bfs S.df S.ef s).length - s) s σ (by omega) (Nat.le_refl _) c t fun σ' er c' => ?_⟩)
      generalize hE : (bfs S.df S.ef s).length = E at *
      unfold B_X2_build_115
      rw [nI_1]
      refine ⟨vp_in_nI (by omega) (by omega), ?_⟩
      rw [nI_clamp (by omega)]
      have hEF : E ≤ (allQ S.df S.ef).length := by rw [← hE]; exact all_pre hs5
      have lo' : ∀ j, j < E → (atQ (allQ S.df S.ef) j).2 < lv + 1 := fun j hj => by
        by_cases a : j < s
        · have := L.lo j a; omega
        · have := L.at_ j (by omega) (by omega); omega
      have hi' : ∀ j, E ≤ j → j < (allQ S.df S.ef).length → lv + 1 ≤ (atQ (allQ S.df S.ef) j).2 := fun j a b => by
        obtain ⟨i, l, a1, a2, a3, a4, a5, a6⟩ := all_par hs5 (by omega) b
        have := L.hi i a1 (Nat.lt_of_lt_of_le a3 (all_pre (by omega)))
        omega
      refine ih E (lv + 1) _ (by omega) (((e.tr ((er.1.mono (by omega) (by omega)))).si (by omega) (by omega) _ _).si (by omega) (by omega) _ _) ?_ ?_ ⟨lo', hi', fun j a b => ?_, by omega, ?_, fun d hd => ?_, Or.inr ⟨?_, by omega, ?_⟩⟩
      · exact c'.keep2 (by rw [gi_pl (by omega), gi_cell (by omega)]) (fun j => by rw [gi_cell (by omega), gi_cell (by omega)]) (fun j => by rw [gi_cell (by omega), gi_cell (by omega)])
      · have t' := t.keep er
        exact ⟨by rw [gi_pl (by omega), gi_cell (by omega)]; exact t'.1, fun j hj => by rw [gi_cell (by omega), gi_cell (by omega)]; exact t'.2 j hj⟩
      · have hb : j < (bfs S.df S.ef (s + (E - s))).length := by rw [show s + (E - s) = E by omega]; exact b
        obtain ⟨i, l, a1, a2, a3, a4, a5, a6⟩ := bfs_par (E - s) (by omega) hb
        rw [show s + (E - s) = E by omega] at a5 a2
        have hi2 : i < (bfs S.df S.ef E).length := Nat.lt_of_lt_of_le a3 (bfs_len (by omega))
        rw [← all_at (by omega) b, ← all_at (by omega) hi2] at a5
        have := L.at_ i a1 (by omega)
        omega
      · rw [← hE]; exact bfs_len (by omega)
      · by_cases hd2 : d = lv + 1
        · rw [hd2, gi_cell (by omega), gi_same, bel_thr hEF lo' hi']
        · rw [gi_cell (by omega), gi_pl (by omega), er.1.i (by omega)]; exact L.st d (by omega)
      · rw [gi_same, show lv + 1 - 1 = lv by omega]
      · rw [show lv + 1 - 1 = lv by omega]; exact L.at_ (E - 1) (by omega) (by omega)
theorem q_build {A : Abs} (o : okA A) {σ : Dz} (c : CSit 17 A.S σ) (z0 : gz_i σ 15 0 = 0) {post : Dz → Prop} (hp : ∀ σ', eqO 12 17 σ σ' → CTab A.n A.S.df A.S.ef σ' → post σ') : P_X2_build σ 17 (nI A.n) post := by
  unfold P_X2_build
  refine q_listTurns o.S c fun σ1 e1 t1 => q_clearT o.n1 o.n2 fun σ2 e2 f2 g2 l2 => ?_
  have c2 : CQ A.n [] σ2 := ⟨g2, fun i hi => absurd hi (Nat.not_lt_zero i), fun x hx => l2 _ (rank_lt o.n1 o.n2 hx), fun e he => (by cases he), fun i j _ hj => absurd hj (Nat.not_lt_zero j), fun e he => (by cases he)⟩
  have t2 : TQ (turnsN A.S.ef 10) σ2 := ⟨by rw [f2 4 (by omega)]; exact t1.1, fun j hj => by rw [e2.i (by omega)]; exact t1.2 j hj⟩
  refine q_reach o.n1 o.n2 c2 (z := 1754760) (d := 0) (isPk_id _) (by omega) fun σ3 e3 c3 => ⟨5041, ?_⟩
  refine q_levels o.S o.n1 o.n2 hp 5041 0 0 σ3 (by omega) ?_ c3 (t2.keep e3) ⟨fun j hj => absurd hj (Nat.not_lt_zero j), fun j _ _ => Nat.zero_le _, fun j _ hj => ?_, Nat.le_refl _, Nat.zero_le _, fun d hd => ?_, Or.inl rfl⟩
  · intro k hk j
    have a := e1 k (by omega) (by omega) j
    have b := e2 k (by omega) j
    have d := e3.1 k (by omega) j
    exact ⟨d.1.trans (b.1.trans a.1), d.2.1.trans (b.2.1.trans a.2.1), d.2.2.1.trans (b.2.2.1.trans a.2.2.1), d.2.2.2.trans (b.2.2.2.trans a.2.2.2)⟩
  · rw [all_at (by omega) hj]
    have hj : j < 1 := hj
    rw [show j = 0 by omega]; rfl
  · rw [show d = 0 by omega, e3.1.i (by omega), e2.i (by omega), (e1 15 (by omega) (by omega) 0).1, z0, bel_thr (c := 0) (Nat.zero_le _) (fun j hj => absurd hj (Nat.not_lt_zero j)) (fun _ _ _ => Nat.zero_le _)]
    rfl
end QLevelsC
