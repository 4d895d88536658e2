theorem law_data {L : Nat} {xs : Nat → Int32} (hL : L ≤ 2048) : L_L_law L xs 600 σz 0 := sorry
