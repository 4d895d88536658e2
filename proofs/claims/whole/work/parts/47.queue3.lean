/-! the queue grows at its end -/
section QQueue3
theorem puts_split {d : Nat} : ∀ (zs : List Nat) (Q : List (Nat × Nat)), ∃ R, qPuts d zs Q = Q ++ R ∧ ∀ e, e ∈ R → e.2 = d ∧ e.1 ∈ zs
  | [], Q => ⟨[], by rw [List.append_nil]; rfl, fun e h => by cases h⟩
  | z :: zs, Q => by
    obtain ⟨R, h1, h2⟩ := puts_split (d := d) zs (qPut d z Q)
    by_cases hh : hasQ Q z = true
    · rw [put_no hh] at h1
      refine ⟨R, ?_, fun e he => ⟨(h2 e he).1, List.mem_cons_of_mem _ (h2 e he).2⟩⟩
      show qPuts d zs (qPut d z Q) = _
      rw [put_no hh]; exact h1
    · have hp : qPut d z Q = Q ++ [(z, d)] := if_neg hh
      refine ⟨(z, d) :: R, ?_, fun e he => ?_⟩
      · show qPuts d zs (qPut d z Q) = _
        rw [h1, hp, List.append_assoc]; rfl
      · rcases List.mem_cons.mp he with a | a
        · rw [a]; exact ⟨rfl, List.mem_cons_self⟩
        · exact ⟨(h2 e a).1, List.mem_cons_of_mem _ (h2 e a).2⟩
theorem at_some {Q : List (Nat × Nat)} {k : Nat} (h : k < Q.length) : Q[k]? = some (atQ Q k) := by
  unfold atQ
  rw [List.getD_eq_getElem?_getD, List.getElem?_eq_getElem h]; rfl
theorem proc_in {df : Nat → Bool} {ef : Nat → Nat} {Q : List (Nat × Nat)} {k : Nat} (h : k < Q.length) : qProc df ef Q k = qPuts ((atQ Q k).2 + 1) ((lets df).map (fun l => cmp (atQ Q k).1 (ef l))) Q := by
  unfold qProc
  rw [at_some h]
  exact fold_puts ef _ _ _ Q
theorem proc_out {df : Nat → Bool} {ef : Nat → Nat} {Q : List (Nat × Nat)} {k : Nat} (h : Q.length ≤ k) : qProc df ef Q k = Q := by
  unfold qProc
  rw [List.getElem?_eq_none h]
theorem bfs_split (df : Nat → Bool) (ef : Nat → Nat) (k : Nat) : ∃ R, bfs df ef (k + 1) = bfs df ef k ++ R ∧ ∀ e, e ∈ R → k < (bfs df ef k).length ∧ e.2 = (atQ (bfs df ef k) k).2 + 1 ∧ ∃ l, l ∈ lets df ∧ e.1 = cmp (atQ (bfs df ef k) k).1 (ef l) := by
  show ∃ R, qProc df ef (bfs df ef k) k = _ ∧ _
  by_cases h : k < (bfs df ef k).length
  · rw [proc_in h]
    obtain ⟨R, h1, h2⟩ := puts_split (d := (atQ (bfs df ef k) k).2 + 1) ((lets df).map (fun l => cmp (atQ (bfs df ef k) k).1 (ef l))) (bfs df ef k)
    refine ⟨R, h1, fun e he => ⟨h, (h2 e he).1, ?_⟩⟩
    obtain ⟨l, hl, e1⟩ := List.mem_map.mp (h2 e he).2
    exact ⟨l, hl, e1.symm⟩
  · rw [proc_out (by omega)]
    exact ⟨[], by rw [List.append_nil], fun e he => by cases he⟩
theorem mem_lets {df : Nat → Bool} {l : Nat} (h : l ∈ lets df) : okL df l := by
  obtain ⟨h1, h2⟩ := List.mem_filter.mp h
  exact ⟨List.mem_range.mp h1, h2⟩
theorem bfs_pk {n : Nat} {S : Sit} (o : okSit n S) : ∀ k, (∀ e, e ∈ bfs S.df S.ef k → isPk n e.1) ∧ ndQ (bfs S.df S.ef k) ∧ 0 < (bfs S.df S.ef k).length
  | 0 => ⟨fun e he => by rw [List.mem_singleton.mp he]; exact isPk_id n, fun i j hij hj => absurd hj (by show ¬ j < 1; omega), Nat.one_pos⟩
  | k + 1 => by
    obtain ⟨h1, h2, h3⟩ := bfs_pk o k
    by_cases h : k < (bfs S.df S.ef k).length
    · have hx := h1 _ (at_mem h)
      have e : bfs S.df S.ef (k + 1) = qPuts ((atQ (bfs S.df S.ef k) k).2 + 1) ((lets S.df).map (fun l => cmp (atQ (bfs S.df S.ef k) k).1 (S.ef l))) (bfs S.df S.ef k) := proc_in h
      obtain ⟨R, hR, -⟩ := bfs_split S.df S.ef k
      refine ⟨?_, ?_, ?_⟩
      · rw [e]
        refine puts_pk h1 fun z hz => ?_
        obtain ⟨l, hl, e1⟩ := List.mem_map.mp hz
        rw [← e1]; exact hx.cmp (o.pk l (mem_lets hl).1)
      · rw [e]; exact puts_nd h2
      · rw [hR, List.length_append]; omega
    · have e : bfs S.df S.ef (k + 1) = bfs S.df S.ef k := proc_out (by omega)
      rw [e]; exact ⟨h1, h2, h3⟩
end QQueue3
