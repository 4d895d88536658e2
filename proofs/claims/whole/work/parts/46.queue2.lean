/-! the queue by places -/
section QQueue2
def atQ (Q : List (Nat × Nat)) (i : Nat) : Nat × Nat := Q.getD i (0, 0)
theorem at_l : ∀ {Q R : List (Nat × Nat)} {i : Nat}, i < Q.length → atQ (Q ++ R) i = atQ Q i
  | [], _, i, h => absurd h (Nat.not_lt_zero i)
  | _ :: _, _, 0, _ => rfl
  | _ :: Q, R, i + 1, h => at_l (Q := Q) (R := R) (i := i) (Nat.lt_of_succ_lt_succ h)
theorem at_e : ∀ {Q : List (Nat × Nat)} {e : Nat × Nat}, atQ (Q ++ [e]) Q.length = e
  | [], _ => rfl
  | _ :: Q, e => at_e (Q := Q) (e := e)
theorem at_mem : ∀ {Q : List (Nat × Nat)} {i : Nat}, i < Q.length → atQ Q i ∈ Q
  | [], i, h => absurd h (Nat.not_lt_zero i)
  | _ :: _, 0, _ => List.mem_cons_self
  | _ :: Q, i + 1, h => List.mem_cons_of_mem _ (at_mem (Q := Q) (i := i) (Nat.lt_of_succ_lt_succ h))
theorem mem_at : ∀ {Q : List (Nat × Nat)} {e : Nat × Nat}, e ∈ Q → ∃ i, i < Q.length ∧ atQ Q i = e
  | [], _, h => by cases h
  | a :: Q, e, h => by
    rcases List.mem_cons.mp h with z | z
    · exact ⟨0, Nat.zero_lt_succ _, z.symm⟩
    · obtain ⟨i, h1, h2⟩ := mem_at z
      exact ⟨i + 1, Nat.succ_lt_succ h1, h2⟩
def ndQ (Q : List (Nat × Nat)) : Prop := ∀ i j, i < j → j < Q.length → (atQ Q i).1 ≠ (atQ Q j).1
theorem put_nd {d z : Nat} {Q : List (Nat × Nat)} (h : ndQ Q) : ndQ (qPut d z Q) := by
  unfold qPut
  split
  · exact h
  · rename_i hn
    intro i j hij hj
    rw [List.length_append, List.length_singleton] at hj
    rw [at_l (Q := Q) (show i < Q.length by omega)]
    by_cases e : j < Q.length
    · rw [at_l e]; exact h i j hij e
    · have : j = Q.length := by omega
      subst this
      rw [at_e]
      intro z2
      have z2 : (atQ Q i).1 = z := z2
      exact hn (has_iff.mpr ⟨(atQ Q i).2, by
        have := at_mem (Q := Q) (i := i) (by omega)
        rw [show ((z, (atQ Q i).2) : Nat × Nat) = atQ Q i from by rw [← z2]]; exact this⟩)
theorem puts_nd {d : Nat} : ∀ {zs : List Nat} {Q : List (Nat × Nat)}, ndQ Q → ndQ (qPuts d zs Q)
  | [], _, h => h
  | _ :: zs, _, h => puts_nd (zs := zs) (put_nd h)
theorem nd_le {n : Nat} {Q : List (Nat × Nat)} (hn : 2 ≤ n) (h7 : n ≤ 7) (h : ndQ Q) (hp : ∀ e, e ∈ Q → isPk n e.1) : Q.length ≤ fctN n := by
  refine fb_holes (fctN n) Q.length (fun i => rnkN (atQ Q i).1 7) (fun i hi => rank_lt hn h7 (hp _ (at_mem hi))) (fun i j hij hj e => ?_)
  exact h i j hij hj (rank_inj (hp _ (at_mem (show i < Q.length by omega))) (hp _ (at_mem hj)) e)
/-- all are there: nothing is put any more -/
theorem nd_full {n z : Nat} {Q : List (Nat × Nat)} (hn : 2 ≤ n) (h7 : n ≤ 7) (h : ndQ Q) (hp : ∀ e, e ∈ Q → isPk n e.1) (hf : fctN n ≤ Q.length) (hz : isPk n z) : hasQ Q z = true := by
  have hl := nd_le hn h7 h hp
  have he : Q.length = fctN n := by omega
  obtain ⟨i, h1, h2⟩ := fb_onto (n := fctN n) (f := fun i => rnkN (atQ Q i).1 7) (fun i hi => rank_lt hn h7 (hp _ (at_mem (by omega)))) (fun i j hij hj e => h i j hij (by omega) (rank_inj (hp _ (at_mem (show i < Q.length by omega))) (hp _ (at_mem (show j < Q.length by omega))) e)) (rank_lt hn h7 hz)
  have := rank_inj (hp _ (at_mem (show i < Q.length by omega))) hz h2
  exact has_iff.mpr ⟨(atQ Q i).2, by rw [← this]; exact at_mem (by omega)⟩
end QQueue2
