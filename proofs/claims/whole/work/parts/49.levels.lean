/-! looking a level up -/
section QLevels
theorem lvQ_none {Q : List (Nat × Nat)} {z : Nat} (h : hasQ Q z = false) : lvI Q z = -1 := by
  unfold lvI
  have : Q.find? (fun e => e.1 == z) = none := by
    rw [List.find?_eq_none]
    intro e he hh
    have : hasQ Q z = true := List.any_eq_true.mpr ⟨e, he, hh⟩
    rw [h] at this; cases this
  rw [this]
theorem lvQ_app {Q : List (Nat × Nat)} {e : Nat × Nat} {z : Nat} (h : hasQ Q z = true) : lvI (Q ++ [e]) z = lvI Q z := by
  unfold lvI
  rw [List.find?_append]
  cases hf : Q.find? (fun e => e.1 == z) with
  | some a => rfl
  | none =>
    obtain ⟨d, hd⟩ := has_iff.mp h
    have := List.find?_eq_none.mp hf (z, d) hd
    exact absurd (by simp) this
theorem lvQ_put {Q : List (Nat × Nat)} {d z w : Nat} : lvI (qPut d z Q) w = if w = z ∧ hasQ Q z = false then nI d else lvI Q w := by
  cases hz : hasQ Q z with
  | true => rw [put_no hz, if_neg (by simp)]
  | false =>
    have hp : qPut d z Q = Q ++ [(z, d)] := if_neg (by rw [hz]; decide)
    rw [hp]
    by_cases e : w = z
    · rw [if_pos ⟨e, rfl⟩]
      subst e
      unfold lvI
      have : Q.find? (fun e => e.1 == w) = none := by
        rw [List.find?_eq_none]
        intro e he hh
        have : hasQ Q w = true := List.any_eq_true.mpr ⟨e, he, hh⟩
        rw [hz] at this; cases this
      rw [List.find?_append, this]
      simp
    · rw [if_neg (fun h => e h.1)]
      cases hw : hasQ Q w with
      | true => exact lvQ_app hw
      | false =>
        rw [lvQ_none hw, lvQ_none]
        cases h2 : hasQ (Q ++ [(z, d)]) w with
        | false => rfl
        | true =>
          obtain ⟨a, ha⟩ := has_iff.mp h2
          rcases List.mem_append.mp ha with b | b
          · rw [has_iff.mpr ⟨a, b⟩] at hw; cases hw
          · have := List.mem_singleton.mp b
            cases this; exact absurd rfl e
theorem lvQ_at : ∀ {Q : List (Nat × Nat)}, ndQ Q → ∀ {i : Nat}, i < Q.length → lvI Q (atQ Q i).1 = nI (atQ Q i).2 := by
  intro Q h i hi
  unfold lvI
  cases hf : Q.find? (fun e => e.1 == (atQ Q i).1) with
  | none =>
    have := List.find?_eq_none.mp hf _ (at_mem hi)
    exact absurd (by simp) this
  | some a =>
    have h1 := List.mem_of_find?_eq_some hf
    have h2 := List.find?_some hf
    obtain ⟨j, hj, ej⟩ := mem_at h1
    have h2 : a.1 = (atQ Q i).1 := by simpa using h2
    have : j = i := by
      rcases Nat.lt_trichotomy j i with z | z | z
      · exact absurd (by rw [ej]; exact h2) (h j i z hi)
      · exact z
      · exact absurd (by rw [ej]; exact h2.symm) (h i j z hj)
    rw [this] at ej
    rw [← ej]
end QLevels
