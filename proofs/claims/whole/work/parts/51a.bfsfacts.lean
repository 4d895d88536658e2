/-! the queue as a whole -/
section QBfs
theorem bfs_pre (df : Nat → Bool) (ef : Nat → Nat) (k : Nat) : ∀ m, ∃ R, bfs df ef (k + m) = bfs df ef k ++ R
  | 0 => ⟨[], by rw [List.append_nil]; rfl⟩
  | m + 1 => by
    obtain ⟨R, h⟩ := bfs_pre df ef k m
    obtain ⟨R2, h2, -⟩ := bfs_split df ef (k + m)
    exact ⟨R ++ R2, by rw [← List.append_assoc, ← h]; exact h2⟩
theorem bfs_len {df : Nat → Bool} {ef : Nat → Nat} {k K : Nat} (h : k ≤ K) : (bfs df ef k).length ≤ (bfs df ef K).length := by
  obtain ⟨R, hR⟩ := bfs_pre df ef k (K - k)
  rw [show k + (K - k) = K by omega] at hR
  rw [hR, List.length_append]; omega
theorem bfs_at {df : Nat → Bool} {ef : Nat → Nat} {k K j : Nat} (h : k ≤ K) (hj : j < (bfs df ef k).length) : atQ (bfs df ef K) j = atQ (bfs df ef k) j := by
  obtain ⟨R, hR⟩ := bfs_pre df ef k (K - k)
  rw [show k + (K - k) = K by omega] at hR
  rw [hR, at_l hj]
theorem at_sh : ∀ (Q R : List (Nat × Nat)) (i : Nat), Q.length ≤ i → atQ (Q ++ R) i = atQ R (i - Q.length) := by
  intro Q
  induction Q with
  | nil => intro R i _; rfl
  | cons a Q ih =>
    intro R i hi
    obtain ⟨i, rfl⟩ : ∃ i', i = i' + 1 := ⟨i - 1, by have : Q.length + 1 ≤ i := hi; omega⟩
    have := ih R i (Nat.le_of_succ_le_succ hi)
    show atQ (Q ++ R) i = atQ R (i + 1 - (Q.length + 1))
    rw [this]; congr 1; omega
/-- the item from which another was reached -/
theorem bfs_par {df : Nat → Bool} {ef : Nat → Nat} {k j : Nat} : ∀ m, (bfs df ef k).length ≤ j → j < (bfs df ef (k + m)).length → ∃ i l, k ≤ i ∧ i < k + m ∧ i < (bfs df ef i).length ∧ l ∈ lets df ∧ (atQ (bfs df ef (k + m)) j).2 = (atQ (bfs df ef (k + m)) i).2 + 1 ∧ (atQ (bfs df ef (k + m)) j).1 = cmp (atQ (bfs df ef (k + m)) i).1 (ef l)
  | 0, h1, h2 => absurd h2 (by show ¬ j < (bfs df ef k).length; omega)
  | m + 1, h1, h2 => by
    by_cases hj : j < (bfs df ef (k + m)).length
    · obtain ⟨i, l, a1, a2, a3, a4, a5, a6⟩ := bfs_par m h1 hj
      have hi : i < (bfs df ef (k + m)).length := Nat.lt_of_lt_of_le a3 (bfs_len (by omega))
      have e1 : atQ (bfs df ef (k + (m + 1))) j = atQ (bfs df ef (k + m)) j := bfs_at (by omega) hj
      have e2 : atQ (bfs df ef (k + (m + 1))) i = atQ (bfs df ef (k + m)) i := bfs_at (by omega) hi
      exact ⟨i, l, a1, by omega, a3, a4, by rw [e1, e2]; exact a5, by rw [e1, e2]; exact a6⟩
    · obtain ⟨R, hR, hm⟩ := bfs_split df ef (k + m)
      have hR' : bfs df ef (k + (m + 1)) = bfs df ef (k + m) ++ R := hR
      have hin : atQ (bfs df ef (k + (m + 1))) j ∈ R := by
        rw [hR', at_sh _ _ _ (by omega)]
        rw [hR', List.length_append] at h2
        exact at_mem (by omega)
      obtain ⟨b1, b2, l, b3, b4⟩ := hm _ hin
      have e2 : atQ (bfs df ef (k + (m + 1))) (k + m) = atQ (bfs df ef (k + m)) (k + m) := bfs_at (by omega) b1
      exact ⟨k + m, l, by omega, by omega, b1, b3, by rw [e2]; exact b2, by rw [e2]; exact b4⟩
theorem bfs_end {df : Nat → Bool} {ef : Nat → Nat} {k : Nat} (h : (bfs df ef k).length ≤ k) : ∀ m, bfs df ef (k + m) = bfs df ef k
  | 0 => rfl
  | m + 1 => by
    have ih := bfs_end h m
    show qProc df ef (bfs df ef (k + m)) (k + m) = _
    rw [ih, proc_out (by omega)]
theorem bfs_turns {n : Nat} {S : Sit} (o : okSit n S) {k : Nat} (h : k < (bfs S.df S.ef k).length) : bfs S.df S.ef (k + 1) = qPuts ((atQ (bfs S.df S.ef k) k).2 + 1) ((turnsN S.ef 10).map (fun e => cmp (atQ (bfs S.df S.ef k) k).1 e)) (bfs S.df S.ef k) := by
  have hx := (bfs_pk o k).1 _ (at_mem h)
  have hh : hasQ (bfs S.df S.ef k) (atQ (bfs S.df S.ef k) k).1 = true := has_iff.mpr ⟨(atQ (bfs S.df S.ef k) k).2, at_mem h⟩
  show qProc S.df S.ef (bfs S.df S.ef k) k = _
  unfold qProc
  rw [at_some h]
  show ((List.range 10).filter (fun l => S.df (l / 2))).foldl (qAdd S.ef (atQ (bfs S.df S.ef k) k).1 (atQ (bfs S.df S.ef k) k).2) (bfs S.df S.ef k) = _
  rw [lets_all o hx 10 (Nat.le_refl _) _ hh, fold_puts, turns_puts hx hh]
theorem bfs_full {n : Nat} {S : Sit} (o : okSit n S) (h2 : 2 ≤ n) (h7 : n ≤ 7) {k : Nat} (h : fctN n ≤ (bfs S.df S.ef k).length) : ∀ m, bfs S.df S.ef (k + m) = bfs S.df S.ef k
  | 0 => rfl
  | m + 1 => by
    have ih := bfs_full o h2 h7 h m
    obtain ⟨R, hR, hm⟩ := bfs_split S.df S.ef (k + m)
    obtain ⟨p1, p2, -⟩ := bfs_pk o (k + m + 1)
    have hl := nd_le h2 h7 p2 p1
    rw [hR, List.length_append, ih] at hl
    have : R = [] := List.length_eq_zero_iff.mp (by omega)
    rw [this, List.append_nil, ih] at hR
    exact hR
theorem all_pre {df : Nat → Bool} {ef : Nat → Nat} {k : Nat} (h : k ≤ 5040) : (bfs df ef k).length ≤ (allQ df ef).length := bfs_len h
theorem all_at {df : Nat → Bool} {ef : Nat → Nat} {k j : Nat} (h : k ≤ 5040) (hj : j < (bfs df ef k).length) : atQ (allQ df ef) j = atQ (bfs df ef k) j := bfs_at h hj
theorem all_par {df : Nat → Bool} {ef : Nat → Nat} {k j : Nat} (h : k ≤ 5040) (h1 : (bfs df ef k).length ≤ j) (h2 : j < (allQ df ef).length) : ∃ i l, k ≤ i ∧ i < 5040 ∧ i < (bfs df ef i).length ∧ l ∈ lets df ∧ (atQ (allQ df ef) j).2 = (atQ (allQ df ef) i).2 + 1 ∧ (atQ (allQ df ef) j).1 = cmp (atQ (allQ df ef) i).1 (ef l) := by
  have h3 : j < (bfs df ef (k + (5040 - k))).length := by rw [show k + (5040 - k) = 5040 by omega]; exact h2
  have := bfs_par (5040 - k) h1 h3
  rw [show k + (5040 - k) = 5040 by omega] at this
  exact this
theorem all_le {n : Nat} {S : Sit} (o : okSit n S) (h2 : 2 ≤ n) (h7 : n ≤ 7) : (allQ S.df S.ef).length ≤ 5040 := by
  obtain ⟨p1, p2, -⟩ := bfs_pk o 5040
  exact Nat.le_trans (nd_le h2 h7 p2 p1) (fct_le h7)
theorem cnt_thr {p : Nat × Nat → Bool} : ∀ (F : List (Nat × Nat)) (c : Nat), c ≤ F.length → (∀ j, j < c → p (atQ F j) = true) → (∀ j, c ≤ j → j < F.length → p (atQ F j) = false) → F.countP p = c
  | [], c, h, _, _ => by
    have : c = 0 := Nat.le_zero.mp h
    rw [this]; rfl
  | a :: F, 0, _, _, h2 => by
    have ha : p a = false := h2 0 (Nat.le_refl _) (Nat.zero_lt_succ _)
    rw [List.countP_cons_of_neg (by rw [ha]; decide)]
    exact cnt_thr F 0 (Nat.zero_le _) (fun j hj => absurd hj (Nat.not_lt_zero j)) (fun j _ hj => h2 (j + 1) (Nat.zero_le _) (Nat.succ_lt_succ hj))
  | a :: F, c + 1, h, h1, h2 => by
    have ha : p a = true := h1 0 (Nat.zero_lt_succ _)
    rw [List.countP_cons_of_pos ha]
    rw [cnt_thr F c (Nat.le_of_succ_le_succ h) (fun j hj => h1 (j + 1) (Nat.succ_lt_succ hj)) (fun j hc hj => h2 (j + 1) (Nat.succ_le_succ hc) (Nat.succ_lt_succ hj))]
theorem cnt_bel (d : Nat) : ∀ F : List (Nat × Nat), belD F (d + 1) = belD F d + cntD F d
  | [] => rfl
  | a :: F => by
    have ih := cnt_bel d F
    unfold belD cntD at ih ⊢
    rw [List.countP_cons, List.countP_cons, List.countP_cons, ih]
    by_cases h1 : a.2 < d
    · have : ¬ a.2 = d := by omega
      simp [h1, this, show a.2 < d + 1 by omega]; omega
    · by_cases h3 : a.2 = d
      · simp [h3]; omega
      · simp [h1, h3, show ¬ a.2 < d + 1 by omega]
theorem top_at : ∀ {F : List (Nat × Nat)}, 0 < F.length → topD F = (atQ F (F.length - 1)).2 := by
  intro F h
  unfold topD
  rw [List.getLast?_eq_getElem?, at_some (by omega)]
theorem memD : ∀ {T : List Nat} {e : Nat}, e ∈ T ↔ ∃ i, i < T.length ∧ T.getD i 0 = e
  | [], e => ⟨fun h => (by cases h), fun ⟨i, h, _⟩ => absurd h (Nat.not_lt_zero i)⟩
  | a :: T, e => by
    constructor
    · intro h
      rcases List.mem_cons.mp h with z | z
      · exact ⟨0, Nat.zero_lt_succ _, z.symm⟩
      · obtain ⟨i, h1, h2⟩ := memD.mp z
        exact ⟨i + 1, Nat.succ_lt_succ h1, h2⟩
    · rintro ⟨i, h1, h2⟩
      cases i with
      | zero => exact List.mem_cons.mpr (Or.inl h2.symm)
      | succ i => exact List.mem_cons_of_mem _ (memD.mpr ⟨i, Nat.lt_of_succ_lt_succ h1, h2⟩)
theorem turns_le (ef : Nat → Nat) : ∀ k, (turnsN ef k).length ≤ k
  | 0 => Nat.le_refl _
  | k + 1 => by
    have := turns_le ef k
    rw [turnsN]; split
    · omega
    · rw [List.length_append, List.length_singleton]; omega
theorem turns_mem {ef : Nat → Nat} {e : Nat} : ∀ {k : Nat}, e ∈ turnsN ef k → ∃ l, l < k ∧ e = ef l
  | 0, h => by cases h
  | k + 1, h => by
    rw [turnsN] at h
    split at h
    · obtain ⟨l, h1, h2⟩ := turns_mem h
      exact ⟨l, by omega, h2⟩
    · rcases List.mem_append.mp h with a | a
      · obtain ⟨l, h1, h2⟩ := turns_mem a
        exact ⟨l, by omega, h2⟩
      · exact ⟨k, by omega, List.mem_singleton.mp a⟩
end QBfs
