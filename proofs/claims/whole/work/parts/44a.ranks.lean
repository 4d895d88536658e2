/-! ranks and numbers are one to one, by looking at all permutations -/
section QRanks
/-- from the last place on: the d-th of what is left, from above -/
def decR (r : Nat) : Nat → List Nat → Nat → Nat
  | 0, _, acc => acc
  | i + 1, rem, acc => decR r i (rem.erase (rem.getD (r / fctN i % (i + 1)) 0)) (acc + rem.getD (r / fctN i % (i + 1)) 0 * 8 ^ i)
def prRank (x : Nat) : Bool := decR (rnkN x 7) 7 [6, 5, 4, 3, 2, 1, 0] 0 == x
set_option maxRecDepth 100000 in
set_option maxHeartbeats 4000000 in
theorem prRank_all : all7 prRank = true := by decide +kernel
def fixN (n x : Nat) : Bool := (List.range 7).all fun i => decide (i < n) || imgN x i == i
def prRankLt (x : Nat) : Bool := (List.range 6).all fun t => !fixN (t + 2) x || decide (rnkN x 7 < fctN (t + 2))
set_option maxRecDepth 100000 in
set_option maxHeartbeats 4000000 in
theorem prRankLt_all : all7 prRankLt = true := by decide +kernel
theorem fixN_ok {n x : Nat} (h : isPk n x) : fixN n x = true := by
  rw [fixN, List.all_eq_true]
  intro i hi
  have hi := List.mem_range.mp hi
  rw [Bool.or_eq_true, decide_eq_true_eq, beq_iff_eq]
  by_cases h1 : i < n
  · exact Or.inl h1
  · exact Or.inr (h.2.2.2 i hi (by omega))
theorem rank_inj {n x y : Nat} (hx : isPk n x) (hy : isPk n y) (e : rnkN x 7 = rnkN y 7) : x = y := by
  have h1 := all7_ok prRank_all hx.seven
  have h2 := all7_ok prRank_all hy.seven
  rw [prRank, beq_iff_eq] at h1 h2
  rw [← h1, ← h2, e]
theorem rank_lt {n x : Nat} (hn : 2 ≤ n) (h7 : n ≤ 7) (hx : isPk n x) : rnkN x 7 < fctN n := by
  have h1 := all7_ok prRankLt_all hx.seven
  rw [prRankLt, List.all_eq_true] at h1
  have h2 := h1 (n - 2) (List.mem_range.mpr (by omega))
  rw [show n - 2 + 2 = n by omega, fixN_ok hx] at h2
  simpa using h2
theorem fct_le {n : Nat} (h : n ≤ 7) : fctN n ≤ 5040 := by
  rcases (show n = 0 ∨ n = 1 ∨ n = 2 ∨ n = 3 ∨ n = 4 ∨ n = 5 ∨ n = 6 ∨ n = 7 by omega) with h | h | h | h | h | h | h | h <;> subst h <;> decide
end QRanks
