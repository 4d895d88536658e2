/-! the model: item by item -/
section QTell2
theorem MQu.keep2 {n : Nat} {Q : List (Nat × Nat)} {σ σ' : Dz} (h : MQu n Q σ) (e1 : gz_i σ' 43 32 = gz_i σ 43 32) (e2 : ∀ j, gz_i σ' 62 j = gz_i σ 62 j) (e3 : ∀ j, gz_i σ' 61 j = gz_i σ 61 j) : MQu n Q σ' := ⟨by rw [e1]; exact h.sz, fun i hi => by rw [e2]; exact h.rg i hi, fun x hx => by rw [e3]; exact h.lv x hx, h.pk, h.nd, h.dp⟩
theorem lkQ_bfs {df : Nat → Bool} {ef : Nat → Nat} {k : Nat} (h : k < (bfs df ef k).length) : lkQ df ef (atQ (bfs df ef k) k).1 (atQ (bfs df ef k) k).2 (bfs df ef k) 10 = bfs df ef (k + 1) := by
  show _ = qProc df ef (bfs df ef k) k
  unfold qProc
  rw [at_some h]
  rfl
theorem m_items {n : Nat} {S : Sit} (o : okSit n S) (h2 : 2 ≤ n) (h7 : n ≤ 7) {σ0 : Dz} (hn : gz_i σ0 43 1 = nI n) (ms : MSit 44 n S σ0) {post : Dz → Prop} (hp : ∀ σ', eqD σ0 σ' → MTab n S.df S.ef σ' → gz_i σ' 43 27 = 1 → post σ') : ∀ m k σ, 5041 ≤ m + k → eqD σ0 σ → gz_i σ 43 27 = 1 → MQu n (bfs S.df S.ef k) σ → k ≤ (bfs S.df S.ef k).length → (∀ d, d < 5040 → gz_i σ 65 d = nI (cntK (allQ S.df S.ef) d k)) → (k = 0 ∨ gz_i σ 43 33 = nI (atQ (allQ S.df S.ef) (k - 1)).2) → L_X10_tellDepths_100 post m σ (nI k) := by
  have hf := fct_le h7
  intro m
  induction m with
  | zero =>
    intro k σ hm e t c hk ct ll
    have := nd_le h2 h7 c.nd c.pk
    omega
  | succ m ih =>
    intro k σ hm e t c hk ct ll
    show B_X10_tellDepths_100 _ _ _ _
    unfold B_X10_tellDepths_100
    have hlen := nd_le h2 h7 c.nd c.pk
    rw [c.sz]
    by_cases hdone : (bfs S.df S.ef k).length ≤ k
    · have hF : allQ S.df S.ef = bfs S.df S.ef k := by
        have := bfs_end hdone (5040 - k)
        rw [show k + (5040 - k) = 5040 by omega] at this
        exact this
      have h0 := (bfs_pk o k).2.2
      refine br_t (by simp (disch := omega) only [fa_lit, nI_add, pk_mul, nI_ltI, nI_leI, nI_eq] <;> omega) (hp σ e ⟨by rw [hF]; exact c.sz, ?_, fun d hd => ?_, fun x hx => by rw [hF]; exact c.lv x hx⟩ t)
      · rcases ll with z | z
        · omega
        · rw [z, top_at (by rw [hF]; exact h0), hF, show (bfs S.df S.ef k).length - 1 = k - 1 by omega]
      · rw [ct d hd, cntK_all (by rw [hF]; exact hdone)]
    · have hk2 : k < (bfs S.df S.ef k).length := by omega
      have hk5 : k ≤ 5040 := by omega
      have hx := c.pk _ (at_mem hk2)
      have hdl := dep_le (df := S.df) (ef := S.ef) (K := k) (k + 1) k (by omega) hk2
      have hF := all_at hk5 hk2
      have hkF : k < (allQ S.df S.ef).length := Nat.lt_of_lt_of_le hk2 (all_pre hk5)
      have hnσ : gz_i σ 43 1 = nI n := by rw [e.2 1 (by omega) (by omega) (by omega)]; exact hn
      have hb := lkQ_bfs hk2
      have hlv := lvQ_at c.nd hk2
      rw [nI_clamp (by omega), c.rg k hk2]
      generalize hX : (atQ (bfs S.df S.ef k) k).1 = x at *
      generalize hD : (atQ (bfs S.df S.ef k) k).2 = d at *
      refine br_f (by simp (disch := omega) only [fa_lit, nI_add, pk_mul, nI_ltI, nI_leI, nI_eq] <;> omega) ⟨vp_in_nI (by omega) (by omega), m_unpacks hnσ h7 hx.iv.2.1 fun σ1 e1 r1 => ?_⟩
      have c1 := c.moved (e1.mono (c := 63) (d := 65) (by omega) (by omega))
      refine m_numberOf (by rw [e1.i (by omega)]; exact hnσ) h7 r1 ?_
      have hN := num_lt h7 (ivN x)
      rw [nI_clamp (by omega), c1.lv x hx, hlv, nI_clamp (by omega)]
      refine ⟨vp_in_nI hN (by omega), vp_in_nI (by omega) (by omega), vp_in_nI (by omega) (by omega), 11, ?_⟩
      have ct1 : ∀ q, q < 5040 → gz_i σ1 65 q = nI (cntK (allQ S.df S.ef) q k) := fun q hq => by rw [e1.i (by omega)]; exact ct q hq
      rw [ct1 d (by omega), nI_1]
      have eD : eqD σ0 (sz_i (sz_i σ1 65 d (nI (cntK (allQ S.df S.ef) d k + 1))) 43 33 (nI d)) := ((e.tr (e1.dd (by omega) (by omega))).si (by omega) (by omega) _ _).sj (by omega) _
      refine m_letters o h2 h7 hx (by omega) (Q := bfs S.df S.ef k) (fun σ' e' c' => ?_) 10 0 _ rfl (el_r _) ?_ ?_ ?_ ?_
      · rw [hb] at c'
        rw [nI_1]
        refine ih (k + 1) σ' (by omega) (eD.tr e'.d) ?_ c' ?_ (fun q hq => ?_) (Or.inr ?_)
        · rw [e'.2 27 (by omega), gi_pl (by omega), gi_cell (by omega), e1.i (by omega)]; exact t
        · have := bfs_len (df := S.df) (ef := S.ef) (show k ≤ k + 1 by omega)
          omega
        · rw [e'.i (by omega), gi_cell (by omega), cntK_succ hkF, hF, hD]
          by_cases hq2 : q = d
          · rw [hq2, gi_same, if_pos rfl]
          · rw [gi_pl hq2, if_neg (fun z => hq2 z.symm)]; exact ct1 q hq
        · rw [e'.2 33 (by omega), gi_same, show k + 1 - 1 = k by omega, hF, hD]
      · rw [eD.2 1 (by omega) (by omega) (by omega)]; exact hn
      · exact ms.keep fun q a b j => eD.i (by omega) j
      · intro p hp2
        rw [gi_cell (by omega), gi_cell (by omega)]; exact r1 p hp2
      · exact c1.keep2 (by rw [gi_pl (by omega), gi_cell (by omega)]) (fun j => by rw [gi_cell (by omega), gi_cell (by omega)]) (fun j => by rw [gi_cell (by omega), gi_cell (by omega)])
theorem m_tell0 {n : Nat} {S : Sit} (o : okSit n S) (h2 : 2 ≤ n) (h7 : n ≤ 7) {σ : Dz} (hn : gz_i σ 43 1 = nI n) (ms : MSit 44 n S σ) {post : Dz → Prop} (hp : ∀ σ', eqD σ σ' → MTab n S.df S.ef σ' → gz_i σ' 43 27 = 1 → post σ') : ∃ q, L_X10_tellDepths_15 post q (sz_i σ 43 27 (1 : Int32)) (0 : Int32) := by
  have key44 : ∀ k p τ, p + k = n → eqD σ τ → gz_i τ 43 27 = 1 → (∀ d, d < 5040 → gz_i τ 61 d = -1 ∧ gz_i τ 65 d = 0) → rowM 63 p 1754760 τ → L_X10_tellDepths_44 post (k + 1) τ (nI (p + 1)) := by
    intro k
    induction k with
    | zero =>
      intro p τ hp2 e t v r
      show B_X10_tellDepths_44 _ _ _ _
      unfold B_X10_tellDepths_44
      have hnτ : gz_i τ 43 1 = nI n := by rw [e.2 1 (by omega) (by omega) (by omega)]; exact hn
      rw [hnτ]
      have : p = n := by omega
      subst this
      refine br_t (by simp (disch := omega) only [fa_lit, nI_add, pk_mul, nI_ltI, nI_leI, nI_eq] <;> omega) (m_numberOf hnτ h7 r ?_)
      have hN := num_lt h7 1754760
      refine ⟨vp_in_nI hN (by omega), ?_⟩
      rw [nI_clamp (by omega), show ((0 : Int32)).toNatClampNeg = 0 from rfl]
      refine m_packed (by rw [gi_cell (by omega)]; exact hnτ) h7 (isPk_id 7).2.1 (fun q hq => by rw [gi_cell (by omega)]; exact r q hq) ⟨5041, ?_⟩
      refine m_items o h2 h7 hn ms hp 5041 0 _ (by omega) (((e.si (by omega) (by omega) _ _).si (by omega) (by omega) _ _).sj (by omega) _) ?_ ⟨?_, fun i hi => ?_, fun x hx => ?_, (bfs_pk o 0).1, (bfs_pk o 0).2.1, fun q hq => ?_⟩ (Nat.zero_le _) (fun d hd => ?_) (Or.inl rfl)
      · rw [gi_pl (by omega), gi_cell (by omega), gi_cell (by omega)]; exact t
      · rw [gi_same]; rfl
      · have hi : i < 1 := hi
        rw [show i = 0 by omega, gi_cell (by omega), gi_same]
        show nI (pkM 1754760 p) = nI (pkM (ivN 1754760) p)
        rw [id_iv]
      · rw [gi_cell (by omega), gi_cell (by omega)]
        have := lvQ_put (Q := []) (d := 0) (z := 1754760) (w := x)
        show _ = lvI (qPut 0 1754760 []) x
        rw [this]
        by_cases hx2 : x = 1754760
        · rw [if_pos ⟨hx2, rfl⟩, hx2, id_iv, gi_same]; rfl
        · rw [if_neg (fun h => hx2 h.1), gi_pl (fun h => hx2 ?_)]
          · exact (v _ (num_lt h7 _)).1
          · have := num_inj h7 hx.iv (isPk_id _) h
            rw [← iv_iv hx, this, id_iv]
      · rw [List.mem_singleton.mp hq]; exact Nat.zero_le _
      · rw [gi_cell (by omega), gi_cell (by omega), gi_cell (by omega), (v d hd).2]; rfl
    | succ k ih =>
      intro p τ hp2 e t v r
      show B_X10_tellDepths_44 _ _ _ _
      unfold B_X10_tellDepths_44
      rw [e.2 1 (by omega) (by omega) (by omega), hn, nI_clamp (by omega)]
      refine br_f (by simp (disch := omega) only [fa_lit, nI_add, pk_mul, nI_ltI, nI_leI, nI_eq] <;> omega) ⟨vp_in_nI (by omega) (by omega), ?_⟩
      rw [nI_1]
      refine ih (p + 1) _ (by omega) (e.si (by omega) (by omega) _ _) (by rw [gi_cell (by omega)]; exact t) (fun d hd => by rw [gi_cell (by omega), gi_cell (by omega)]; exact v d hd) fun q hq => ?_
      by_cases hq2 : q = p
      · rw [hq2, gi_same, img_id p (by omega)]
      · rw [gi_pl (by omega)]; exact r q (by omega)
  have key15 : ∀ k d τ, d + k = 5040 → eqD σ τ → gz_i τ 43 27 = 1 → (∀ q, q < d → gz_i τ 61 q = -1 ∧ gz_i τ 65 q = 0) → L_X10_tellDepths_15 post (k + 1) τ (nI d) := by
    intro k
    induction k with
    | zero =>
      intro d τ hd e t v
      show B_X10_tellDepths_15 _ _ _ _
      unfold B_X10_tellDepths_15
      have : d = 5040 := by omega
      subst this
      exact br_t (by simp (disch := omega) only [fa_lit, nI_add, pk_mul, nI_ltI, nI_leI, nI_eq] <;> omega) ⟨n + 1, key44 n 0 τ (by omega) e t v (fun q hq => absurd hq (Nat.not_lt_zero q))⟩
    | succ k ih =>
      intro d τ hd e t v
      show B_X10_tellDepths_15 _ _ _ _
      unfold B_X10_tellDepths_15
      rw [nI_clamp (by omega)]
      refine br_f (by simp (disch := omega) only [fa_lit, nI_add, pk_mul, nI_ltI, nI_leI, nI_eq] <;> omega) ⟨vp_in_nI (by omega) (by omega), vp_in_nI (by omega) (by omega), ?_⟩
      rw [nI_1]
      refine ih (d + 1) _ (by omega) ((e.si (by omega) (by omega) _ _).si (by omega) (by omega) _ _) (by rw [gi_cell (by omega), gi_cell (by omega)]; exact t) fun q hq => ?_
      by_cases hq2 : q = d
      · rw [hq2, gi_cell (by omega), gi_same, gi_same]; exact ⟨rfl, rfl⟩
      · rw [gi_cell (by omega), gi_pl hq2, gi_pl hq2, gi_cell (by omega)]; exact v q (by omega)
  exact ⟨5041, key15 5040 0 _ (by omega) ((ed_r σ).sj (by omega) _) (gi_same _ _ _ _) (fun q hq => absurd hq (Nat.not_lt_zero q))⟩
theorem eqD.eo {σ σ' : Dz} (h : eqD σ σ') : eqO 43 66 σ σ' := fun k hk j => h.1 k (by omega) (by omega) j
theorem MI.told {A : Abs} {σ σ' : Dz} (h : MI A σ) (e : eqD σ σ') (t : gz_i σ' 43 27 = 1) (T : MTab A.n A.S.df A.S.ef σ') : MI A σ' := by
  have ei : ∀ k, 43 < k → k < 57 → ∀ j, gz_i σ' k j = gz_i σ k j := fun k a b j => e.i (by omega) j
  refine ⟨by rw [e.2 _ (by omega) (by omega) (by omega)]; exact h.n, by rw [e.2 _ (by omega) (by omega) (by omega)]; exact h.er, by rw [e.2 _ (by omega) (by omega) (by omega)]; exact h.hs, h.S.keep fun c _ _ j => ei c (by omega) (by omega) j, fun s hs => (h.sv s hs).keep fun c _ _ j => ei c (by omega) (by omega) j, by rw [e.2 _ (by omega) (by omega) (by omega)]; exact h.tl, fun i hi => by rw [ei _ (by omega) (by omega)]; exact h.tx i hi, fun j hj => by rw [(e.1 50 (by omega) (by omega) j).2.1]; exact h.fl j hj, fun j hj => by rw [(e.1 51 (by omega) (by omega) j).2.2.1]; exact h.db j hj, Or.inr ⟨t, T⟩⟩
theorem m_tell {A : Abs} (o : okA A) {σ : Dz} (m : MI A σ) {post : Dz → Prop} (hp : ∀ σ', eqD σ σ' → MI A σ' → MTab A.n A.S.df A.S.ef σ' → post σ') : P_X10_tellDepths σ post := by
  unfold P_X10_tellDepths
  rcases m.tb with t | ⟨t, T⟩
  · refine br_t t (m_tell0 o.S o.n1 o.n2 m.n m.S fun σ' e T t' => hp σ' e (m.told e t' T) T)
  · exact br_f (by rw [t]; decide) (hp σ (ed_r σ) m T)
theorem CI.told {A : Abs} {σ σ' : Dz} (h : CI A σ) (e : eqO 12 17 σ σ') (T : CTab A.n A.S.df A.S.ef σ') : CI A (sz_i σ' 0 14 1) := by
  have ei : ∀ k, k ≠ 0 → (k < 12 ∨ 17 ≤ k) → ∀ j, gz_i (sz_i σ' 0 14 1) k j = gz_i σ k j := fun k a b j => by rw [gi_cell (by omega)]; exact e.i b j
  have e0 : ∀ j, j ≠ 14 → gz_i (sz_i σ' 0 14 1) 0 j = gz_i σ 0 j := fun j hj => by rw [gi_pl hj]; exact e.i (by omega) j
  refine ⟨by rw [e0 _ (by omega)]; exact h.n, by rw [e0 _ (by omega)]; exact h.er, by rw [e0 _ (by omega)]; exact h.hs, h.S.keep fun c _ _ j => ei c (by omega) (by omega) j, fun s hs => (h.sv s hs).keep fun c _ _ j => ei c (by omega) (by omega) j, by rw [ei _ (by omega) (by omega)]; exact h.tl, fun i hi => by rw [ei _ (by omega) (by omega)]; exact h.tx i hi, fun j hj => ?_, fun j hj => ?_, Or.inr ⟨gi_same _ _ _ _, T.keep fun c _ _ j => gi_cell (by omega)⟩⟩
  · have : gz_f (sz_i σ' 0 14 1) 41 j = gz_f σ' 41 j := rfl
    rw [this, e.f (by omega)]; exact h.fl j hj
  · have : gz_d (sz_i σ' 0 14 1) 42 j = gz_d σ' 42 j := rfl
    rw [this, e.d (by omega)]; exact h.db j hj
theorem q_currentTable {A : Abs} (o : okA A) {σ : Dz} (c : CI A σ) {post : Dz → Prop} (hp : ∀ σ', eqO 0 17 σ σ' → CI A σ' → CTab A.n A.S.df A.S.ef σ' → post σ') : P_X9_currentTable σ post := by
  unfold P_X9_currentTable
  rcases c.tb with t | ⟨t, T⟩
  · refine bn_t t.1 ?_
    rw [c.n]
    exact q_build o c.S t.2 fun σ' e T => hp _ ((e.mono (by omega) (by omega)).si (by omega) (by omega) _ _) (c.told e T) (T.keep fun c _ _ j => gi_cell (by omega))
  · exact bn_f (by rw [t]; decide) (hp σ (eo_r _ _ _) c T)
end QTell2
