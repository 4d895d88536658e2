/-! the law over the data -/
section QData
theorem inv_start : Inv σz := by
  refine ⟨(3, clrS, (0, fun _ => 0), -1, none, fun _ => 0, fun _ => 0), ⟨by decide, by decide, clr_ok 3, Nat.zero_le _, fun i hi => absurd hi (Nat.not_lt_zero i), Or.inl rfl, fun s h => (by cases h), fun j _ => fp0_F, fun j _ => fp0_D⟩, ⟨rfl, rfl, rfl, ⟨⟨0, by decide, rfl, fun q _ => Nat.zero_testBit q⟩, rfl, by decide, by decide, fun s _ i hi => absurd hi (Nat.not_lt_zero i)⟩, fun s h => (by cases h), rfl, fun i hi => absurd hi (Nat.not_lt_zero i), fun _ _ => rfl, fun _ _ => rfl, Or.inl ⟨rfl, rfl⟩⟩, ⟨rfl, rfl, rfl, ⟨by decide, by decide, fun l _ hd => (by cases hd), by decide, fun s _ i hi => absurd hi (Nat.not_lt_zero i)⟩, fun s h => (by cases h), rfl, fun i hi => absurd hi (Nat.not_lt_zero i), fun _ _ => rfl, fun _ _ => rfl, Or.inl rfl⟩⟩
theorem law_all {L : Nat} {xs : Nat → Int32} (hL : L ≤ 2048) : ∀ n t σ, 4 * t ≤ L → L < 4 * (t + n) → Inv σ → L_L_law L xs n σ (nI (4 * t))
  | 0, t, σ, h1, h2, _ => absurd h2 (by omega)
  | n + 1, t, σ, h1, h2, hI => by
    show B_L_law_28 _ _ _ _ _
    unfold B_L_law_28
    refine ⟨fun _ => trivial, fun hn => ?_⟩
    have h4 : 4 * t + 4 ≤ L := by
      rw [fa_lt] at hn
      have e1 : (Int32.ofNat L).toInt = (L : Int) := nI_toInt (n := L) (by omega)
      have e4 : (4 : Int32).toInt = 4 := by decide
      rw [fb_subI (by rw [e1, e4]; omega) (by rw [e1, e4]; omega), e1, e4, nI_toInt (by omega)] at hn
      omega
    have v0 : vp_in (nI (4 * t)) L := vp_in_nI (by omega) (by omega)
    have v1 : vp_in (nI (4 * t) + 1) L := by rw [nI_1]; exact vp_in_nI (by omega) (by omega)
    have v2 : vp_in (nI (4 * t) + 2) L := by rw [show (2 : Int32) = nI 2 from rfl, nI_add]; exact vp_in_nI (by omega) (by omega)
    have v3 : vp_in (nI (4 * t) + 3) L := by rw [show (3 : Int32) = nI 3 from rfl, nI_add]; exact vp_in_nI (by omega) (by omega)
    have hr : ∀ σ', Inv σ' → L_L_law L xs n σ' (nI (4 * t) + 4) := fun σ' hI' => by
      rw [show (4 : Int32) = nI 4 from rfl, nI_add, show 4 * t + 4 = 4 * (t + 1) by omega]
      exact law_all hL n (t + 1) σ' (by omega) (by omega) hI'
    exact ⟨v0, fun _ => cs_reset v1 hI hr, fun _ => cs_positions hI hr, fun _ => cs_append v1 hI hr, fun _ => cs_define v1 hI hr, fun _ => cs_store v1 hI hr, fun _ => cs_error hI hr, fun _ => cs_target v1 v2 hI hr, fun _ => cs_wordLength v1 hI hr, fun _ => cs_letter v1 v2 hI hr, fun _ => cs_invert v1 v2 hI hr, fun _ => cs_conjugate v1 v2 v3 hI hr, fun _ => cs_commutator v1 v2 v3 hI hr, fun _ => cs_order v1 hI hr, fun _ => cs_isOdd v1 hI hr, fun _ => cs_cycleLength v1 v2 hI hr, fun _ => cs_isSame v1 v2 hI hr, fun _ => cs_perform v1 v2 hI hr, fun _ => cs_exchange v1 v2 hI hr, fun _ => cs_token v1 hI hr, fun _ => cs_depth hI hr, fun _ => cs_solve v1 hI hr, fun _ => cs_countAt v1 hI hr, fun _ => cs_reachable hI hr, fun _ => cs_greatest hI hr, fun _ => cs_average hI hr, fun _ => cs_orbit v1 hI hr, fun _ => cs_find v1 v2 hI hr, fun _ => cs_fill v1 hI hr, fun _ => cs_scale v1 v2 v3 hI hr, fun _ => cs_remainder v1 v2 v3 hI hr, fun _ => cs_snapshot hI hr, fun _ => cs_restore hI hr⟩
theorem law_data {L : Nat} {xs : Nat → Int32} (hL : L ≤ 2048) : L_L_law L xs 600 σz 0 := law_all hL 600 0 σz (by omega) (by omega) inv_start
end QData
