/-! letters that move nothing, or the same as an earlier one, put nothing -/
section QTurns
def turnsN (ef : Nat → Nat) : Nat → List Nat
  | 0 => []
  | k + 1 => if ef k = 1754760 ∨ ef k ∈ turnsN ef k then turnsN ef k else turnsN ef k ++ [ef k]
theorem turns_puts {n : Nat} {ef : Nat → Nat} {x d : Nat} (hx : isPk n x) {Q : List (Nat × Nat)} (h : hasQ Q x = true) : ∀ k, qPuts d ((List.range k).map (fun l => cmp x (ef l))) Q = qPuts d ((turnsN ef k).map (fun e => cmp x e)) Q
  | 0 => rfl
  | k + 1 => by
    have ih := turns_puts (ef := ef) (d := d) hx h k
    rw [List.range_succ, List.map_append, puts_app, ih]
    show qPut d (cmp x (ef k)) (qPuts d ((turnsN ef k).map (fun e => cmp x e)) Q) = _
    rw [turnsN]
    by_cases hc : ef k = 1754760 ∨ ef k ∈ turnsN ef k
    · rw [if_pos hc]
      refine put_no ?_
      rcases hc with e | e
      · rw [e, cmp_id hx]; exact puts_up h
      · exact puts_has (List.mem_map.mpr ⟨ef k, e, rfl⟩)
    · rw [if_neg hc, List.map_append, puts_app]; rfl
end QTurns
