/-! the queue -/
section QQueue
def hasQ (Q : List (Nat × Nat)) (z : Nat) : Bool := Q.any (fun e => e.1 == z)
def qPut (d z : Nat) (Q : List (Nat × Nat)) : List (Nat × Nat) := if hasQ Q z then Q else Q ++ [(z, d)]
theorem qAdd_put (ef : Nat → Nat) (x d : Nat) (Q : List (Nat × Nat)) (l : Nat) : qAdd ef x d Q l = qPut (d + 1) (cmp x (ef l)) Q := rfl
theorem has_iff {Q : List (Nat × Nat)} {z : Nat} : hasQ Q z = true ↔ ∃ d, (z, d) ∈ Q := by
  unfold hasQ
  rw [List.any_eq_true]
  constructor
  · rintro ⟨e, h1, h2⟩
    rw [beq_iff_eq] at h2
    exact ⟨e.2, by rw [← h2]; exact h1⟩
  · rintro ⟨d, h⟩
    exact ⟨(z, d), h, by simp⟩
theorem put_self (d z : Nat) (Q : List (Nat × Nat)) : hasQ (qPut d z Q) z = true := by
  unfold qPut
  split
  · assumption
  · exact has_iff.mpr ⟨d, List.mem_append_right _ (List.mem_singleton.mpr rfl)⟩
theorem put_mem {d z : Nat} {Q : List (Nat × Nat)} {e : Nat × Nat} (h : e ∈ Q) : e ∈ qPut d z Q := by
  unfold qPut
  split
  · exact h
  · exact List.mem_append_left _ h
theorem put_up {d z w : Nat} {Q : List (Nat × Nat)} (h : hasQ Q w = true) : hasQ (qPut d z Q) w = true := by
  obtain ⟨a, h⟩ := has_iff.mp h
  exact has_iff.mpr ⟨a, put_mem h⟩
def qPuts (d : Nat) : List Nat → List (Nat × Nat) → List (Nat × Nat)
  | [], Q => Q
  | z :: zs, Q => qPuts d zs (qPut d z Q)
theorem puts_up {d w : Nat} : ∀ {zs : List Nat} {Q : List (Nat × Nat)}, hasQ Q w = true → hasQ (qPuts d zs Q) w = true
  | [], _, h => h
  | _ :: zs, _, h => puts_up (zs := zs) (put_up h)
theorem puts_has {d z : Nat} : ∀ {zs : List Nat} {Q : List (Nat × Nat)}, z ∈ zs → hasQ (qPuts d zs Q) z = true
  | [], _, h => by cases h
  | w :: zs, Q, h => by
    rcases List.mem_cons.mp h with e | e
    · subst e; exact puts_up (zs := zs) (put_self d z Q)
    · exact puts_has (zs := zs) e
theorem puts_app (d : Nat) : ∀ (zs ws : List Nat) (Q : List (Nat × Nat)), qPuts d (zs ++ ws) Q = qPuts d ws (qPuts d zs Q)
  | [], _, _ => rfl
  | z :: zs, ws, Q => puts_app d zs ws (qPut d z Q)
theorem fold_puts (ef : Nat → Nat) (x d : Nat) : ∀ (L : List Nat) (Q : List (Nat × Nat)), L.foldl (qAdd ef x d) Q = qPuts (d + 1) (L.map (fun l => cmp x (ef l))) Q
  | [], _ => rfl
  | l :: L, Q => fold_puts ef x d L (qAdd ef x d Q l)
theorem put_no {d z : Nat} {Q : List (Nat × Nat)} (h : hasQ Q z = true) : qPut d z Q = Q := if_pos h
theorem put_pk {n d z : Nat} {Q : List (Nat × Nat)} (h : ∀ e, e ∈ Q → isPk n e.1) (hz : isPk n z) : ∀ e, e ∈ qPut d z Q → isPk n e.1 := by
  intro e he
  unfold qPut at he
  split at he
  · exact h e he
  · rcases List.mem_append.mp he with a | a
    · exact h e a
    · rw [List.mem_singleton.mp a]; exact hz
theorem puts_pk {n d : Nat} : ∀ {zs : List Nat} {Q : List (Nat × Nat)}, (∀ e, e ∈ Q → isPk n e.1) → (∀ z, z ∈ zs → isPk n z) → ∀ e, e ∈ qPuts d zs Q → isPk n e.1
  | [], _, h, _ => h
  | z :: zs, _, h, hz => puts_pk (zs := zs) (put_pk h (hz z List.mem_cons_self)) (fun w hw => hz w (List.mem_cons_of_mem _ hw))
/-- the letters of undefined moves put nothing: all ten may be tried -/
theorem lets_all {n : Nat} {S : Sit} (o : okSit n S) {x d : Nat} (hx : isPk n x) : ∀ (k : Nat), k ≤ 10 → ∀ (Q : List (Nat × Nat)), hasQ Q x = true → ((List.range k).filter (fun l => S.df (l / 2))).foldl (qAdd S.ef x d) Q = (List.range k).foldl (qAdd S.ef x d) Q
  | 0, _, _, _ => rfl
  | k + 1, hk, Q, h => by
    have ih := lets_all o (d := d) hx k (by omega) Q h
    rw [List.range_succ, List.filter_append, List.foldl_append, List.foldl_append, ih]
    cases hd : S.df (k / 2) with
    | true => rw [show List.filter (fun l => S.df (l / 2)) [k] = [k] by simp [hd]]
    | false =>
      rw [show List.filter (fun l => S.df (l / 2)) [k] = [] by simp [hd]]
      show _ = qAdd S.ef x d _ k
      rw [qAdd_put, o.un k (by omega) hd, cmp_id hx, put_no]
      · rfl
      · rw [fold_puts]; exact puts_up h
end QQueue
