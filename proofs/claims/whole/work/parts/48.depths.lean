/-! depths along the queue -/
section QDepths
theorem bfs_dep (df : Nat → Bool) (ef : Nat → Nat) : ∀ k, (∀ i j, i ≤ j → j < (bfs df ef k).length → (atQ (bfs df ef k) i).2 ≤ (atQ (bfs df ef k) j).2) ∧ (k < (bfs df ef k).length → ∀ j, j < (bfs df ef k).length → (atQ (bfs df ef k) j).2 ≤ (atQ (bfs df ef k) k).2 + 1) ∧ atQ (bfs df ef k) 0 = (1754760, 0) ∧ ∀ j, 0 < j → j < (bfs df ef k).length → ∃ i l, i < j ∧ i < k ∧ l ∈ lets df ∧ (atQ (bfs df ef k) j).2 = (atQ (bfs df ef k) i).2 + 1 ∧ (atQ (bfs df ef k) j).1 = cmp (atQ (bfs df ef k) i).1 (ef l)
  | 0 => by
    refine ⟨fun i j hij hj => ?_, fun _ j hj => ?_, rfl, fun j h0 hj => ?_⟩
    · have hj : j < 1 := hj
      rw [show i = 0 by omega, show j = 0 by omega]; exact Nat.le_refl _
    · have hj : j < 1 := hj
      rw [show j = 0 by omega]; omega
    · have hj : j < 1 := hj
      omega
  | k + 1 => by
    obtain ⟨h1, h2, h3, h4⟩ := bfs_dep df ef k
    obtain ⟨R, hR, hm⟩ := bfs_split df ef k
    have low : ∀ i, i < (bfs df ef k).length → atQ (bfs df ef (k + 1)) i = atQ (bfs df ef k) i := fun i hi => by rw [hR, at_l hi]
    have up : ∀ i, (bfs df ef k).length ≤ i → i < (bfs df ef (k + 1)).length → atQ (bfs df ef (k + 1)) i ∈ R := by
      intro i h hi
      have hsh : ∀ (Q R : List (Nat × Nat)) (i : Nat), Q.length ≤ i → atQ (Q ++ R) i = atQ R (i - Q.length) := by
        intro Q
        induction Q with
        | nil => intro R i _; rfl
        | cons a Q ih =>
          intro R i hi
          obtain ⟨i, rfl⟩ : ∃ i', i = i' + 1 := ⟨i - 1, by have : Q.length + 1 ≤ i := hi; omega⟩
          have := ih R i (Nat.le_of_succ_le_succ hi)
          show atQ (Q ++ R) i = atQ R (i + 1 - (Q.length + 1))
          rw [this]; congr 1; omega
      rw [hR, List.length_append] at hi
      rw [hR, hsh _ _ _ h]
      exact at_mem (by omega)
    have h0 : 0 < (bfs df ef k).length := by
      rcases Nat.eq_zero_or_pos (bfs df ef k).length with z | z
      · have : bfs df ef k = [] := List.length_eq_zero_iff.mp z
        rw [this] at h3; cases h3
      · exact z
    have len : (bfs df ef k).length ≤ (bfs df ef (k + 1)).length := by rw [hR, List.length_append]; omega
    have mono : ∀ i j, i ≤ j → j < (bfs df ef (k + 1)).length → (atQ (bfs df ef (k + 1)) i).2 ≤ (atQ (bfs df ef (k + 1)) j).2 := by
      intro i j hij hj
      by_cases a : j < (bfs df ef k).length
      · rw [low i (by omega), low j a]; exact h1 i j hij a
      · have m := hm _ (up j (by omega) hj)
        rw [m.2.1]
        by_cases b : i < (bfs df ef k).length
        · rw [low i b]; exact h2 m.1 i b
        · rw [(hm _ (up i (by omega) (by omega))).2.1]; exact Nat.le_refl _
    refine ⟨mono, fun hk j hj => ?_, by rw [low 0 h0]; exact h3, fun j j0 hj => ?_⟩
    · by_cases a : k < (bfs df ef k).length
      · have hk1 := mono k (k + 1) (by omega) hk
        rw [low k a] at hk1
        by_cases b : j < (bfs df ef k).length
        · rw [low j b]; have := h2 a j b; omega
        · rw [(hm _ (up j (by omega) hj)).2.1]; omega
      · by_cases b : j < (bfs df ef k).length
        · have := mono j (k + 1) (by omega) hk; omega
        · exact absurd (hm _ (up j (by omega) hj)).1 a
    · by_cases a : j < (bfs df ef k).length
      · obtain ⟨i, l, b1, b2, b3, b4, b5⟩ := h4 j j0 a
        exact ⟨i, l, b1, by omega, b3, by rw [low j a, low i (by omega)]; exact b4, by rw [low j a, low i (by omega)]; exact b5⟩
      · obtain ⟨m1, m2, l, m3, m4⟩ := hm _ (up j (by omega) hj)
        exact ⟨k, l, by omega, by omega, m3, by rw [low k m1]; exact m2, by rw [low k m1]; exact m4⟩
end QDepths
