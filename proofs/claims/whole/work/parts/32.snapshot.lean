/-! snapshot, restore -/
section QSnapshot
theorem MSit.copy {t t1 n : Nat} {S : Sit} {σ σ' : Dz} (h : MSit t n S σ) (hn : n ≤ 7) (ho : okSit n S) (r0 : ∀ j, j < 8 → gz_i σ' t1 j = gz_i σ t j) (r1 : ∀ j, j < 5 → gz_i σ' (t1 + 1) j = gz_i σ (t + 1) j) (r2 : ∀ j, j < 80 → gz_i σ' (t1 + 2) j = gz_i σ (t + 2) j) (r3 : ∀ j, j < 4 → gz_i σ' (t1 + 3) j = gz_i σ (t + 3) j) (r4 : ∀ j, j < 800 → gz_i σ' (t1 + 4) j = gz_i σ (t + 4) j) : MSit t1 n S σ' :=
  ⟨fun p hp => by rw [r0 _ (by omega)]; exact h.to p hp, fun m hm => by rw [r1 _ (by omega)]; exact h.df m hm, fun l hl hd p hp => by rw [r2 _ (by omega)]; exact h.ef l hl hd p hp, fun s hs => by rw [r3 _ (by omega)]; exact h.wl s hs, fun s hs i hi => by have := ho.le s hs; rw [r4 _ (by omega)]; exact h.wd s hs i hi⟩
def svA (A : Abs) : Abs := (A.n, A.S, A.2.2.1, A.er, some A.S, A.fl, A.db)
theorem sv_ok {A : Abs} (o : okA A) : okA (svA A) := ⟨o.n1, o.n2, o.S, o.tl, o.tx, o.er, fun s h => by cases h; exact o.S, o.fl, o.db⟩
theorem df_01 {t n : Nat} {S : Sit} {σ : Dz} (h : MSit t n S σ) {m : Nat} (hm : m < 5) : gz_i σ (t + 1) m = 0 ∨ gz_i σ (t + 1) m = 1 := by
  rw [h.df m hm]; split
  · exact Or.inr rfl
  · exact Or.inl rfl
theorem cs_snapshot {L : Nat} {xs : Nat → Int32} {rc : Dz → Int32 → Prop} {σ : Dz} {y5 : Int32} (hI : Inv σ) (hr : ∀ σ', Inv σ' → rc σ' (y5 + 4)) : B_L_law_1898 L xs rc σ y5 := by
  unfold B_L_law_1898 P_X9_snapshot P_X10_snapshot
  obtain ⟨A, o, c, m⟩ := hI
  have h7 := o.n2
  refine q_copyS o.S c.S (by omega) fun σ1 e1 s1 => ?_
  have e2 : eqO 0 43 σ (sz_i σ1 0 13 1) := (e1.mono (by omega) (by omega)).si (by omega) (by omega) _ _
  have c2 : CI (svA A) (sz_i σ1 0 13 1) := by
    have row : ∀ k j, k ≠ 0 → gz_i (sz_i σ1 0 13 1) k j = gz_i σ1 k j := fun k j h => gi_cell h
    have rowo : ∀ k j, k ≠ 0 → (k < 28 ∨ 39 ≤ k) → gz_i (sz_i σ1 0 13 1) k j = gz_i σ k j := fun k j h h2 => by rw [gi_cell h, e1.i h2]
    refine ⟨by rw [gi_pl (by omega), e1.i (by omega)]; exact c.n, by rw [gi_pl (by omega), e1.i (by omega)]; exact c.er, gi_same _ _ _ _, c.S.keep fun k _ _ j => rowo k j (by omega) (by omega), fun s h => ?_, by rw [rowo _ _ (by omega) (by omega)]; exact c.tl, fun i hi => by rw [rowo _ _ (by omega) (by omega)]; exact c.tx i hi, fun j hj => ?_, fun j hj => ?_, ?_⟩
    · cases h; exact s1.keep fun k _ _ j => row k j (by omega)
    · have : gz_f (sz_i σ1 0 13 1) 41 j = gz_f σ1 41 j := rfl
      rw [this, e1.f (by omega)]; exact c.fl j hj
    · have : gz_d (sz_i σ1 0 13 1) 42 j = gz_d σ1 42 j := rfl
      rw [this, e1.d (by omega)]; exact c.db j hj
    · rw [gi_pl (by omega), e1.i (by omega)]
      exact c.tb.imp (fun t => ⟨t.1, by rw [rowo _ _ (by omega) (by omega)]; exact t.2⟩) fun t => ⟨t.1, t.2.keep fun k _ _ j => rowo k j (by omega) (by omega)⟩
  have m2 := m.byC e2
  generalize sz_i σ1 0 13 1 = τ at c2 m2
  show P_X10_copy (sz_i (sz_i τ 43 0 0) 43 12 1) 44 8 52 8 _
  have e3 : eqO 43 44 τ (sz_i (sz_i τ 43 0 0) 43 12 1) := ((eo_r _ _ _).si (by omega) (by omega) _ _).si (by omega) (by omega) _ _
  have f3 : ∀ k j, k ≠ 43 → gz_i (sz_i (sz_i τ 43 0 0) 43 12 1) k j = gz_i τ k j := fun k j h => by rw [gi_cell h, gi_cell h]
  have g3 : ∀ j, j ≠ 0 → j ≠ 12 → gz_i (sz_i (sz_i τ 43 0 0) 43 12 1) 43 j = gz_i τ 43 j := fun j h h2 => by rw [gi_pl h2, gi_pl h]
  have g12 : gz_i (sz_i (sz_i τ 43 0 0) 43 12 1) 43 12 = 1 := gi_same _ _ _ _
  generalize sz_i (sz_i τ 43 0 0) 43 12 1 = τ0 at e3 f3 g3 g12
  refine m_copy (by omega) (by decide) (by omega) fun τ1 d1 r1 => m_copy (by omega) (by decide) (by omega) fun τ2 d2 r2 => m_copy (by omega) (by decide) (by omega) fun τ3 d3 r3 => m_copy (by omega) (by decide) (by omega) fun τ4 d4 r4 => ?_
  have key : ∀ q i σ', i + q = 5 → eqO 53 54 τ4 σ' → (∀ j, j < i → gz_i σ' 53 j = gz_i τ 45 j) → L_X10_snapshot_56 (fun τ1903 => rc τ1903 (y5 + 4)) (q + 1) σ' (nI i) := by
    intro q
    induction q with
    | zero =>
      intro i σ' hi e t
      show B_X10_snapshot_56 _ _ _ _
      unfold B_X10_snapshot_56
      refine br_t (by simp (disch := omega) only [fa_lit, nI_add, pk_mul, nI_ltI, nI_leI, nI_eq] <;> omega) ?_
      have a1 : eqO 52 57 τ0 τ1 := d1.mono (by omega) (by omega)
      have all : eqO 52 57 τ0 σ' := (((a1.tr (d2.mono (by omega) (by omega))).tr (d3.mono (by omega) (by omega))).tr (d4.mono (by omega) (by omega))).tr (e.mono (by omega) (by omega))
      have low : ∀ k j, k ≠ 43 → (k < 52 ∨ 57 ≤ k) → gz_i σ' k j = gz_i τ k j := fun k j h h2 => by rw [all.i h2, f3 k j h]
      have fld : ∀ j, j ≠ 0 → j ≠ 12 → gz_i σ' 43 j = gz_i τ 43 j := fun j h h2 => by rw [all.i (by omega), g3 j h h2]
      refine hr _ ⟨svA A, sv_ok o, c2.byM (eqO.tr (e3.mono (by omega) (by omega)) (all.mono (by omega) (by omega))), ⟨by rw [fld _ (by omega) (by omega)]; exact m2.n, by rw [fld _ (by omega) (by omega)]; exact m2.er, by rw [all.i (by omega), g12]; rfl, m2.S.keep fun k _ _ j => low k j (by omega) (by omega), fun s h => ?_, by rw [fld _ (by omega) (by omega)]; exact m2.tl, fun i hi => by rw [low _ _ (by omega) (by omega)]; exact m2.tx i hi, fun j hj => by rw [all.f (by omega), e3.f (by omega)]; exact m2.fl j hj, fun j hj => by rw [all.d (by omega), e3.d (by omega)]; exact m2.db j hj, ?_⟩⟩
      · cases h
        refine m2.S.copy h7 o.S (fun j hj => ?_) (fun j hj => t j (by omega)) (fun j hj => ?_) (fun j hj => ?_) (fun j hj => ?_)
        · rw [e.i (by omega), d4.i (by omega), d3.i (by omega), d2.i (by omega), r1 j hj, f3 _ _ (by omega)]
        · rw [e.i (by omega), d4.i (by omega), d3.i (by omega), r2 j hj, d1.i (by omega), f3 _ _ (by omega)]
        · rw [e.i (by omega), d4.i (by omega), r3 j hj, d2.i (by omega), d1.i (by omega), f3 _ _ (by omega)]
        · rw [e.i (by omega), r4 j hj, d3.i (by omega), d2.i (by omega), d1.i (by omega), f3 _ _ (by omega)]
      · rw [fld _ (by omega) (by omega)]
        exact m2.tb.imp id fun t => ⟨t.1, t.2.keep (fld _ (by omega) (by omega)) (fld _ (by omega) (by omega)) (fun j => low _ j (by omega) (by omega)) (fun j => low _ j (by omega) (by omega))⟩
    | succ q ih =>
      intro i σ' hi e t
      show B_X10_snapshot_56 _ _ _ _
      unfold B_X10_snapshot_56
      have ev : gz_i σ' 45 i = gz_i τ 45 i := by rw [e.i (by omega), d4.i (by omega), d3.i (by omega), d2.i (by omega), d1.i (by omega), f3 _ _ (by omega)]
      rw [nI_clamp (by omega), nI_1, ev]
      refine br_f (by simp (disch := omega) only [fa_lit, nI_add, pk_mul, nI_ltI, nI_leI, nI_eq] <;> omega) ⟨vp_in_nI (by omega) (by omega), df_01 m2.S (by omega), vp_in_nI (by omega) (by omega), ih (i + 1) _ (by omega) (e.si (by omega) (by omega) _ _) (fun j hj => ?_)⟩
      by_cases he : j = i
      · subst he; exact gi_same _ _ _ _
      · rw [gi_pl he]; exact t j (by omega)
  exact ⟨6, key 5 0 τ4 rfl (eo_r _ _ _) (fun j hj => absurd hj (by omega))⟩
def rsA (A : Abs) (S : Sit) : Abs := (A.n, S, A.2.2)
theorem cs_restore {L : Nat} {xs : Nat → Int32} {rc : Dz → Int32 → Prop} {σ : Dz} {y5 : Int32} (hI : Inv σ) (hr : ∀ σ', Inv σ' → rc σ' (y5 + 4)) : B_L_law_1909 L xs rc σ y5 := by
  unfold B_L_law_1909 P_L_restore P_X9_restore P_X10_restore P_X10_thrown
  obtain ⟨A, o, c, m⟩ := hI
  have h7 := o.n2
  rw [c.hs]
  cases hv : A.sv with
  | none =>
    refine bn_t rfl ⟨rfl, ?_⟩
    show (gz_i σ 43 12 = 0 → _) ∧ _
    rw [m.hs, hv]
    refine br_t rfl ?_
    unfold B_X10_restore_13
    rw [gi_same]
    refine br_f (by decide) (br_t (gi_same _ _ _ _) (hr _ ⟨A, o, c.byM ((eo_r 43 66 σ).si (by omega) (by omega) _ _), m.thr _⟩))
  | some S =>
    refine bn_f (show ¬ (1 : Int32) = 0 by decide) (q_copyS (o.sv S hv) (c.sv S hv) (by omega) fun σ1 e1 s1 => ?_)
    have e2 : eqO 0 43 σ (sz_i σ1 0 14 0) := (e1.mono (by omega) (by omega)).si (by omega) (by omega) _ _
    have o2 : okA (rsA A S) := ⟨o.n1, o.n2, o.sv S hv, o.tl, o.tx, o.er, o.sv, o.fl, o.db⟩
    have c2 : CI (rsA A S) (sz_i σ1 0 14 0) := by
      have row : ∀ k j, k ≠ 0 → gz_i (sz_i σ1 0 14 0) k j = gz_i σ1 k j := fun k j h => gi_cell h
      have rowo : ∀ k j, k ≠ 0 → (k < 17 ∨ 28 ≤ k) → gz_i (sz_i σ1 0 14 0) k j = gz_i σ k j := fun k j h h2 => by rw [gi_cell h, e1.i h2]
      refine ⟨by rw [gi_pl (by omega), e1.i (by omega)]; exact c.n, by rw [gi_pl (by omega), e1.i (by omega)]; exact c.er, by rw [gi_pl (by omega), e1.i (by omega)]; exact c.hs, s1.keep fun k _ _ j => row k j (by omega), fun s h => (c.sv s h).keep fun k _ _ j => rowo k j (by omega) (by omega), by rw [rowo _ _ (by omega) (by omega)]; exact c.tl, fun i hi => by rw [rowo _ _ (by omega) (by omega)]; exact c.tx i hi, fun j hj => ?_, fun j hj => ?_, Or.inl ⟨gi_same _ _ _ _, by rw [rowo _ _ (by omega) (by omega)]; exact c.z0⟩⟩
      · have : gz_f (sz_i σ1 0 14 0) 41 j = gz_f σ1 41 j := rfl
        rw [this, e1.f (by omega)]; exact c.fl j hj
      · have : gz_d (sz_i σ1 0 14 0) 42 j = gz_d σ1 42 j := rfl
        rw [this, e1.d (by omega)]; exact c.db j hj
    have m2 := m.byC e2
    generalize sz_i σ1 0 14 0 = τ at c2 m2
    show (gz_i τ 43 12 = 0 → _) ∧ _
    rw [m2.hs, hv]
    refine br_f (show ¬ (1 : Int32) = 0 by decide) ?_
    unfold B_X10_restore_13
    rw [gi_same]
    refine br_t rfl ?_
    have e3 : eqO 43 44 τ (sz_i τ 43 0 0) := (eo_r _ _ _).si (by omega) (by omega) _ _
    have f3 : ∀ k j, k ≠ 43 → gz_i (sz_i τ 43 0 0) k j = gz_i τ k j := fun k j h => gi_cell h
    have g3 : ∀ j, j ≠ 0 → gz_i (sz_i τ 43 0 0) 43 j = gz_i τ 43 j := fun j h => gi_pl h
    have g0 : gz_i (sz_i τ 43 0 0) 43 0 = 0 := gi_same _ _ _ _
    show P_X10_copy (sz_i τ 43 0 0) 52 8 44 8 _
    generalize sz_i τ 43 0 0 = τ0 at e3 f3 g3 g0
    have ms := m2.sv S hv
    refine m_copy (by omega) (by decide) (by omega) fun τ1 d1 r1 => m_copy (by omega) (by decide) (by omega) fun τ2 d2 r2 => m_copy (by omega) (by decide) (by omega) fun τ3 d3 r3 => m_copy (by omega) (by decide) (by omega) fun τ4 d4 r4 => ?_
    have key : ∀ q i σ', i + q = 5 → eqO 45 46 τ4 σ' → (∀ j, j < i → gz_i σ' 45 j = gz_i τ 53 j) → L_X10_restore_70 (fun τ1916 => (gz_i τ1916 43 0 = 0 → rc τ1916 (y5 + 4)) ∧ (¬ gz_i τ1916 43 0 = 0 → False)) (q + 1) σ' (nI i) := by
      intro q
      induction q with
      | zero =>
        intro i σ' hi e t
        show B_X10_restore_70 _ _ _ _
        unfold B_X10_restore_70
        refine br_t (by simp (disch := omega) only [fa_lit, nI_add, pk_mul, nI_ltI, nI_leI, nI_eq] <;> omega) ?_
        have a1 : eqO 44 49 τ0 τ1 := d1.mono (by omega) (by omega)
        have all : eqO 44 49 τ0 σ' := (((a1.tr (d2.mono (by omega) (by omega))).tr (d3.mono (by omega) (by omega))).tr (d4.mono (by omega) (by omega))).tr (e.mono (by omega) (by omega))
        have row : ∀ k j, k ≠ 43 → gz_i (sz_i σ' 43 27 0) k j = gz_i σ' k j := fun k j h => gi_cell h
        have low : ∀ k j, k ≠ 43 → (k < 44 ∨ 49 ≤ k) → gz_i (sz_i σ' 43 27 0) k j = gz_i τ k j := fun k j h h2 => by rw [gi_cell h, all.i h2, f3 k j h]
        have fld : ∀ j, j ≠ 0 → j ≠ 27 → gz_i (sz_i σ' 43 27 0) 43 j = gz_i τ 43 j := fun j h h2 => by rw [gi_pl h2, all.i (by omega), g3 j h]
        refine br_t (by rw [gi_pl (by omega), all.i (by omega), g0]) (hr _ ⟨rsA A S, o2, c2.byM ((eqO.tr (e3.mono (by omega) (by omega)) (all.mono (by omega) (by omega))).si (by omega) (by omega) _ _), ⟨by rw [fld _ (by omega) (by omega)]; exact m2.n, by rw [fld _ (by omega) (by omega)]; exact m2.er, by rw [fld _ (by omega) (by omega)]; exact m2.hs, ?_, fun s h => (m2.sv s h).keep fun k _ _ j => low k j (by omega) (by omega), by rw [fld _ (by omega) (by omega)]; exact m2.tl, fun i hi => by rw [low _ _ (by omega) (by omega)]; exact m2.tx i hi, fun j hj => ?_, fun j hj => ?_, Or.inl (gi_same _ _ _ _)⟩⟩)
        · refine MSit.copy ms h7 (o.sv S hv) (fun j hj => ?_) (fun j hj => ?_) (fun j hj => ?_) (fun j hj => ?_) (fun j hj => ?_)
          · rw [row _ _ (by omega), e.i (by omega), d4.i (by omega), d3.i (by omega), d2.i (by omega), r1 j hj, f3 _ _ (by omega)]
          · rw [row _ _ (by omega)]; exact t j (by omega)
          · rw [row _ _ (by omega), e.i (by omega), d4.i (by omega), d3.i (by omega), r2 j hj, d1.i (by omega), f3 _ _ (by omega)]
          · rw [row _ _ (by omega), e.i (by omega), d4.i (by omega), r3 j hj, d2.i (by omega), d1.i (by omega), f3 _ _ (by omega)]
          · rw [row _ _ (by omega), e.i (by omega), r4 j hj, d3.i (by omega), d2.i (by omega), d1.i (by omega), f3 _ _ (by omega)]
        · have : gz_f (sz_i σ' 43 27 0) 50 j = gz_f σ' 50 j := rfl
          rw [this, all.f (by omega), e3.f (by omega)]; exact m2.fl j hj
        · have : gz_d (sz_i σ' 43 27 0) 51 j = gz_d σ' 51 j := rfl
          rw [this, all.d (by omega), e3.d (by omega)]; exact m2.db j hj
      | succ q ih =>
        intro i σ' hi e t
        show B_X10_restore_70 _ _ _ _
        unfold B_X10_restore_70
        have ev : gz_i σ' 53 i = gz_i τ 53 i := by rw [e.i (by omega), d4.i (by omega), d3.i (by omega), d2.i (by omega), d1.i (by omega), f3 _ _ (by omega)]
        rw [nI_clamp (by omega), nI_1, ev]
        refine br_f (by simp (disch := omega) only [fa_lit, nI_add, pk_mul, nI_ltI, nI_leI, nI_eq] <;> omega) ⟨vp_in_nI (by omega) (by omega), df_01 ms (by omega), vp_in_nI (by omega) (by omega), ih (i + 1) _ (by omega) (e.si (by omega) (by omega) _ _) (fun j hj => ?_)⟩
        by_cases he : j = i
        · subst he; exact gi_same _ _ _ _
        · rw [gi_pl he]; exact t j (by omega)
    exact ⟨6, key 5 0 τ4 rfl (eo_r _ _ _) (fun j hj => absurd hj (by omega))⟩
end QSnapshot
