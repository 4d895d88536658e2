/-! the model tells its depths -/
section QTell
def MQu (n : Nat) (Q : QL) (σ : Dz) : Prop := (gz_i σ 43 32 = nI Q.length) ∧ (∀ i, i < Q.length → gz_i σ 62 i = nI (pkM (ivN (atQ Q i).1) n)) ∧ (∀ x, isPk n x → gz_i σ 61 (numN n (ivN x)) = lvI Q x) ∧ (∀ e, e ∈ Q → isPk n e.1) ∧ (ndQ Q) ∧ (∀ e, e ∈ Q → e.2 ≤ 5040)
theorem MQu.sz {n : Nat} {Q : QL} {σ : Dz} (h : MQu n Q σ) : gz_i σ 43 32 = nI Q.length := h.1
theorem MQu.rg {n : Nat} {Q : QL} {σ : Dz} (h : MQu n Q σ) : ∀ i, i < Q.length → gz_i σ 62 i = nI (pkM (ivN (atQ Q i).1) n) := h.2.1
theorem MQu.lv {n : Nat} {Q : QL} {σ : Dz} (h : MQu n Q σ) : ∀ x, isPk n x → gz_i σ 61 (numN n (ivN x)) = lvI Q x := h.2.2.1
theorem MQu.pk {n : Nat} {Q : QL} {σ : Dz} (h : MQu n Q σ) : ∀ e, e ∈ Q → isPk n e.1 := h.2.2.2.1
theorem MQu.nd {n : Nat} {Q : QL} {σ : Dz} (h : MQu n Q σ) : ndQ Q := h.2.2.2.2.1
theorem MQu.dp {n : Nat} {Q : QL} {σ : Dz} (h : MQu n Q σ) : ∀ e, e ∈ Q → e.2 ≤ 5040 := h.2.2.2.2.2
/-- cells 61, 62, 64 and field 32 of cell 43 may change -/
def eqL (σ σ' : Dz) : Prop := (∀ k, k ≠ 43 → k ≠ 61 → k ≠ 62 → k ≠ 64 → ∀ j, gz_i σ' k j = gz_i σ k j ∧ gz_f σ' k j = gz_f σ k j ∧ gz_d σ' k j = gz_d σ k j ∧ gz_l σ' k j = gz_l σ k j) ∧ ∀ j, j ≠ 32 → gz_i σ' 43 j = gz_i σ 43 j
theorem el_r (σ : Dz) : eqL σ σ := ⟨fun _ _ _ _ _ _ => ⟨rfl, rfl, rfl, rfl⟩, fun _ _ => rfl⟩
theorem eqL.tr {σ σ' σ'' : Dz} (h : eqL σ σ') (h2 : eqL σ' σ'') : eqL σ σ'' := ⟨fun k a b c d j => ⟨(h2.1 k a b c d j).1.trans (h.1 k a b c d j).1, (h2.1 k a b c d j).2.1.trans (h.1 k a b c d j).2.1, (h2.1 k a b c d j).2.2.1.trans (h.1 k a b c d j).2.2.1, (h2.1 k a b c d j).2.2.2.trans (h.1 k a b c d j).2.2.2⟩, fun j hj => (h2.2 j hj).trans (h.2 j hj)⟩
theorem eqL.i {σ σ' : Dz} (h : eqL σ σ') {k : Nat} (hk : k ≠ 43 ∧ k ≠ 61 ∧ k ≠ 62 ∧ k ≠ 64) (j : Nat) : gz_i σ' k j = gz_i σ k j := (h.1 k hk.1 hk.2.1 hk.2.2.1 hk.2.2.2 j).1
theorem eqL.si {σ σ' : Dz} (h : eqL σ σ') {k : Nat} (hk : k = 61 ∨ k = 62 ∨ k = 64) (j : Nat) (v : Int32) : eqL σ (sz_i σ' k j v) := h.tr ⟨fun k' a b c d j' => ⟨gi_cell (by omega), rfl, rfl, rfl⟩, fun j' _ => gi_cell (by omega)⟩
theorem eqL.s32 {σ σ' : Dz} (h : eqL σ σ') (v : Int32) : eqL σ (sz_i σ' 43 32 v) := h.tr ⟨fun k' a b c d j' => ⟨gi_cell (by omega), rfl, rfl, rfl⟩, fun j' h2 => gi_pl h2⟩
theorem eqO.l64 {σ σ' : Dz} (h : eqO 64 65 σ σ') : eqL σ σ' := ⟨fun k a b c d j => h k (by omega) j, fun j _ => h.i (by omega) j⟩
theorem MQu.moved {n : Nat} {Q : List (Nat × Nat)} {σ σ' : Dz} (h : MQu n Q σ) (e : eqO 63 65 σ σ') : MQu n Q σ' := ⟨by rw [e.i (by omega)]; exact h.sz, fun i hi => by rw [e.i (by omega)]; exact h.rg i hi, fun x hx => by rw [e.i (by omega)]; exact h.lv x hx, h.pk, h.nd, h.dp⟩
theorem m_put {n : Nat} (h2 : 2 ≤ n) (h7 : n ≤ 7) {Q : List (Nat × Nat)} {τ : Dz} (hn : gz_i τ 43 1 = nI n) (c : MQu n Q τ) {z d : Nat} (hz : isPk n z) (hd : d ≤ 5040) (r : rowM 64 n (ivN z) τ) {K : Dz → Prop} (hK : ∀ σ', eqL τ σ' → MQu n (qPut d z Q) σ' → K σ') :
    P_X10_numberOf τ 64 8 (fun (r173 : Int32) => (vp_in r173 5040 ∧ ((¬ (gz_i τ 61 (r173).toNatClampNeg) = (-1 : Int32) → K τ) ∧ ((gz_i τ 61 (r173).toNatClampNeg) = (-1 : Int32) → (vp_in r173 5040 ∧ (P_X10_packed (sz_i τ 61 (r173).toNatClampNeg (nI d)) 64 8 (fun (r212 : Int32) => (vp_in (gz_i (sz_i τ 61 (r173).toNatClampNeg (nI d)) 43 32) 5040 ∧ K (sz_i (sz_i (sz_i τ 61 (r173).toNatClampNeg (nI d)) 62 ((gz_i (sz_i τ 61 (r173).toNatClampNeg (nI d)) 43 32)).toNatClampNeg r212) 43 32 ((gz_i (sz_i (sz_i τ 61 (r173).toNatClampNeg (nI d)) 62 ((gz_i (sz_i τ 61 (r173).toNatClampNeg (nI d)) 43 32)).toNatClampNeg r212) 43 32) + (1 : Int32)))))))))) ) := by
  refine m_numberOf hn h7 r ?_
  have hN := num_lt h7 (ivN z)
  have hf := fct_le h7
  have hlen := nd_le h2 h7 c.nd c.pk
  refine ⟨vp_in_nI hN (by omega), ?_⟩
  rw [nI_clamp (by omega), c.lv z hz]
  cases hh : hasQ Q z with
  | true =>
    obtain ⟨i, i1, i2, i3⟩ := lvq_has c.nd hh
    have := c.dp _ (at_mem i1)
    exact bn_f (by rw [i3]; exact nI_m1 (by omega)) (hK τ (el_r τ) (by rw [put_no hh]; exact c))
  | false =>
    have hlt : Q.length < 5040 := by
      rcases Nat.lt_or_ge Q.length (fctN n) with a | a
      · omega
      · rw [nd_full h2 h7 c.nd c.pk a hz] at hh; cases hh
    refine bn_t (lvQ_none hh) ⟨vp_in_nI hN (by omega), ?_⟩
    have e1 : gz_i (sz_i τ 61 (numN n (ivN z)) (nI d)) 43 32 = nI Q.length := by rw [gi_cell (by omega)]; exact c.sz
    refine m_packed (by rw [gi_cell (by omega)]; exact hn) h7 hz.iv.2.1 (fun p hp => by rw [gi_cell (by omega)]; exact r p hp) ?_
    rw [e1]
    refine ⟨vp_in_nI (by omega) (by omega), ?_⟩
    rw [nI_clamp (by omega)]
    have e2 : gz_i (sz_i (sz_i τ 61 (numN n (ivN z)) (nI d)) 62 Q.length (nI (pkM (ivN z) n))) 43 32 = nI Q.length := by rw [gi_cell (by omega)]; exact e1
    rw [e2, nI_1]
    have hq : qPut d z Q = Q ++ [(z, d)] := if_neg (by rw [hh]; decide)
    refine hK _ ((((el_r τ).si (Or.inl rfl) _ _).si (Or.inr (Or.inl rfl)) _ _).s32 _) ⟨?_, fun i hi => ?_, fun x hx => ?_, put_pk c.pk hz, put_nd c.nd, fun e he => ?_⟩
    · rw [gi_same, hq, List.length_append, List.length_singleton]
    · rw [hq] at hi ⊢
      rw [List.length_append, List.length_singleton] at hi
      rw [gi_cell (by omega)]
      by_cases hi2 : i = Q.length
      · subst hi2; rw [gi_same, at_e]
      · rw [gi_pl hi2, gi_cell (by omega), at_l (by omega)]; exact c.rg i (by omega)
    · rw [gi_cell (by omega), gi_cell (by omega), lvQ_put]
      by_cases hx2 : x = z
      · rw [if_pos ⟨hx2, hh⟩, hx2, gi_same]
      · rw [if_neg (fun h => hx2 h.1), gi_pl (fun h => hx2 ?_)]
        · exact c.lv x hx
        · have := num_inj h7 hx.iv hz.iv h
          rw [← iv_iv hx, ← iv_iv hz, this]
    · rw [hq] at he
      rcases List.mem_append.mp he with a | a
      · exact c.dp e a
      · rw [List.mem_singleton.mp a]; exact hd
def lkQ (df : Nat → Bool) (ef : Nat → Nat) (x d : Nat) (Q : List (Nat × Nat)) (l : Nat) : List (Nat × Nat) := ((List.range l).filter (fun q => df (q / 2))).foldl (qAdd ef x d) Q
theorem lkQ_succ (df : Nat → Bool) (ef : Nat → Nat) (x d : Nat) (Q : List (Nat × Nat)) (l : Nat) : lkQ df ef x d Q (l + 1) = if df (l / 2) then qPut (d + 1) (cmp x (ef l)) (lkQ df ef x d Q l) else lkQ df ef x d Q l := by
  unfold lkQ
  rw [List.range_succ, List.filter_append, List.foldl_append]
  cases hd : df (l / 2) with
  | true => rw [show List.filter (fun q => df (q / 2)) [l] = [l] by simp [hd]]; rfl
  | false => rw [show List.filter (fun q => df (q / 2)) [l] = [] by simp [hd]]; rfl
theorem m_letters {n : Nat} {S : Sit} (o : okSit n S) (h2 : 2 ≤ n) (h7 : n ≤ 7) {x d : Nat} (hx : isPk n x) (hd : d + 1 ≤ 5040) {Q : List (Nat × Nat)} {post : Dz → Prop} {rc100 : Dz → Int32 → Prop} {y1 : Int32} {σ0 : Dz} (hr : ∀ σ', eqL σ0 σ' → MQu n (lkQ S.df S.ef x d Q 10) σ' → rc100 σ' (y1 + 1)) : ∀ k l σ, l + k = 10 → eqL σ0 σ → gz_i σ0 43 1 = nI n → MSit 44 n S σ0 → rowM 63 n (ivN x) σ0 → MQu n (lkQ S.df S.ef x d Q l) σ → L_X10_tellDepths_149 post rc100 (k + 1) σ y1 (nI d) (nI l) := by
  intro k
  induction k with
  | zero =>
    intro l σ hl e hn ms r c
    show B_X10_tellDepths_149 _ _ _ _ _ _ _
    unfold B_X10_tellDepths_149
    have : l = 10 := by omega
    subst this
    exact br_t (by simp (disch := omega) only [fa_lit, nI_add, pk_mul, nI_ltI, nI_leI, nI_eq] <;> omega) (hr σ e c)
  | succ k ih =>
    intro l σ hl e hn ms r c
    show B_X10_tellDepths_149 _ _ _ _ _ _ _
    unfold B_X10_tellDepths_149
    have hn' : gz_i σ 43 1 = nI n := by rw [e.2 1 (by omega)]; exact hn
    have ms' : MSit 44 n S σ := ms.keep fun q a b j => e.i (by omega) j
    have r' : rowM 63 n (ivN x) σ := fun p hp => by rw [e.i (by omega)]; exact r p hp
    refine br_f (by simp (disch := omega) only [fa_lit, nI_add, pk_mul, nI_ltI, nI_leI, nI_eq] <;> omega) (m_isLetter (A := (n, S, (0, fun _ => 0), 0, none, fun _ => 0, fun _ => 0)) ms' (by omega) ?_)
    have nx : ∀ σ', eqL σ0 σ' → MQu n (lkQ S.df S.ef x d Q (l + 1)) σ' → L_X10_tellDepths_149 post rc100 (k + 1) σ' y1 (nI d) (nI l + 1) := fun σ' a b => by rw [nI_1]; exact ih (l + 1) σ' (by omega) a hn ms r b
    show (_ → B_X10_tellDepths_226 _ _ _ _ _ _ _) ∧ _
    unfold B_X10_tellDepths_226
    have hs := lkQ_succ S.df S.ef x d Q l
    show ((if S.df (l / 2) then (1 : Int32) else 0) = 0 → _) ∧ (¬ (if S.df (l / 2) then (1 : Int32) else 0) = 0 → _)
    cases hdf : S.df (l / 2) with
    | false =>
      rw [if_neg (by decide)]
      refine br_t rfl (nx σ e ?_)
      rw [hs, hdf]; exact c
    | true =>
      rw [if_pos rfl]
      refine br_f (by decide) (m_moves o hn' h7 ms' hx (by omega) hdf r' fun σ' e' r2 => ?_)
      rw [nI_1 d]
      refine m_put (K := fun τ => L_X10_tellDepths_149 post rc100 (k + 1) τ y1 (nI d) (nI l + 1)) h2 h7 (by rw [e'.i (by omega)]; exact hn') (c.moved (e'.mono (by omega) (by omega))) (hx.cmp (o.pk l (by omega))) hd r2 fun σ'' e'' c'' => ?_
      refine nx σ'' (e.tr (e'.l64.tr e'')) ?_
      rw [hs, hdf]; exact c''
theorem dep_le {df : Nat → Bool} {ef : Nat → Nat} {K : Nat} : ∀ m j, j < m → j < (bfs df ef K).length → (atQ (bfs df ef K) j).2 ≤ j := by
  intro m
  induction m with
  | zero => intro j h; omega
  | succ m ih =>
    intro j hj hl
    obtain ⟨-, -, h3, h4⟩ := bfs_dep df ef K
    by_cases h0 : j = 0
    · rw [h0, h3]; exact Nat.le_refl _
    · obtain ⟨i, l, a1, a2, a3, a4, a5⟩ := h4 j (by omega) hl
      have := ih i (by omega) (by omega)
      omega
/-- what the items below k have counted -/
def cntK (F : List (Nat × Nat)) (d k : Nat) : Nat := (F.take k).countP (fun e => e.2 == d)
theorem take_at : ∀ {F : List (Nat × Nat)} {k : Nat}, k < F.length → F.take (k + 1) = F.take k ++ [atQ F k]
  | [], k, h => absurd h (Nat.not_lt_zero k)
  | _ :: _, 0, _ => rfl
  | a :: F, k + 1, h => by
    show a :: F.take (k + 1) = a :: F.take k ++ [atQ F k]
    rw [take_at (F := F) (k := k) (Nat.lt_of_succ_lt_succ h)]; rfl
theorem cntK_succ {F : List (Nat × Nat)} {d k : Nat} (h : k < F.length) : cntK F d (k + 1) = cntK F d k + if (atQ F k).2 = d then 1 else 0 := by
  unfold cntK
  rw [take_at h, List.countP_append, List.countP_singleton]
  by_cases e : (atQ F k).2 = d
  · rw [if_pos e, if_pos (by rw [e]; exact beq_self_eq_true d)]
  · rw [if_neg e, if_neg (by rw [beq_iff_eq]; exact e)]
theorem cntK_all {F : List (Nat × Nat)} {d k : Nat} (h : F.length ≤ k) : cntK F d k = cntD F d := by
  unfold cntK cntD
  rw [List.take_of_length_le h]
/-- cells 61 .. 65 and fields 27, 32, 33 of cell 43 may change -/
def eqD (σ σ' : Dz) : Prop := (∀ k, k ≠ 43 → (k < 61 ∨ 66 ≤ k) → ∀ j, gz_i σ' k j = gz_i σ k j ∧ gz_f σ' k j = gz_f σ k j ∧ gz_d σ' k j = gz_d σ k j ∧ gz_l σ' k j = gz_l σ k j) ∧ ∀ j, j ≠ 27 → j ≠ 32 → j ≠ 33 → gz_i σ' 43 j = gz_i σ 43 j
theorem ed_r (σ : Dz) : eqD σ σ := ⟨fun _ _ _ _ => ⟨rfl, rfl, rfl, rfl⟩, fun _ _ _ _ => rfl⟩
theorem eqD.tr {σ σ' σ'' : Dz} (h : eqD σ σ') (h2 : eqD σ' σ'') : eqD σ σ'' := ⟨fun k a b j => ⟨(h2.1 k a b j).1.trans (h.1 k a b j).1, (h2.1 k a b j).2.1.trans (h.1 k a b j).2.1, (h2.1 k a b j).2.2.1.trans (h.1 k a b j).2.2.1, (h2.1 k a b j).2.2.2.trans (h.1 k a b j).2.2.2⟩, fun j a b c => (h2.2 j a b c).trans (h.2 j a b c)⟩
theorem eqD.i {σ σ' : Dz} (h : eqD σ σ') {k : Nat} (hk : k ≠ 43 ∧ (k < 61 ∨ 66 ≤ k)) (j : Nat) : gz_i σ' k j = gz_i σ k j := (h.1 k hk.1 hk.2 j).1
theorem eqD.si {σ σ' : Dz} (h : eqD σ σ') {k : Nat} (h1 : 61 ≤ k) (h2 : k < 66) (j : Nat) (v : Int32) : eqD σ (sz_i σ' k j v) := h.tr ⟨fun k' a b j' => ⟨gi_cell (by omega), rfl, rfl, rfl⟩, fun j' _ _ _ => gi_cell (by omega)⟩
theorem eqD.sj {σ σ' : Dz} (h : eqD σ σ') {j : Nat} (hj : j = 27 ∨ j = 32 ∨ j = 33) (v : Int32) : eqD σ (sz_i σ' 43 j v) := h.tr ⟨fun k' a b j' => ⟨gi_cell (by omega), rfl, rfl, rfl⟩, fun j' a b c => gi_pl (by omega)⟩
theorem eqO.dd {σ σ' : Dz} {a b : Nat} (h : eqO a b σ σ') (h1 : 61 ≤ a) (h2 : b ≤ 66) : eqD σ σ' := ⟨fun k _ c j => h k (by omega) j, fun j _ _ _ => h.i (by omega) j⟩
theorem eqL.d {σ σ' : Dz} (h : eqL σ σ') : eqD σ σ' := ⟨fun k a b j => h.1 k a (by omega) (by omega) (by omega) j, fun j _ a _ => h.2 j a⟩
end QTell
