/-! invert, conjugate, commutator -/
section QWordCases
def withS (A : Abs) (S : Sit) : Abs := (A.n, S, A.2.2)
theorem eqS.any {a c d : Nat} {σ σ' : Dz} (h : eqS a a σ σ') : eqS c d σ σ' := ⟨fun k _ h3 j => h.1 k (by omega) h3 j, h.2⟩
theorem CI.draft {A : Abs} {σ σ' : Dz} (c : CI A σ) (e : eqO 39 41 σ σ') : CI A σ' := c.keep fun k hk j => ⟨e.i (by omega) j, e.f (by omega) j, e.d (by omega) j⟩
theorem MI.made {A : Abs} {σ σ' : Dz} (m : MI A σ) (e : eqS 57 61 σ σ') : MI A σ' := m.keep (fun k h1 h2 j => ⟨e.i (by omega) j, e.f (by omega) j, e.d (by omega) j⟩) e.2
theorem okA.setW {A : Abs} (o : okA A) {s l : Nat} {d : Nat → Nat} (hl : l ≤ 200) (hd : ∀ i, i < l → d i < 10 ∧ A.S.df (d i / 2) = true) : okA (withS A (setW A.S s l d)) := ⟨o.n1, o.n2, o.S.setW hl hd, o.tl, o.tx, o.er, o.sv, o.fl, o.db⟩
theorem CI.word {A : Abs} {σ σ' : Dz} (c : CI A σ) {s l : Nat} {d : Nat → Nat} (hs : s < 4) (e : eqO (17 + 3 + 2 * s) (17 + 3 + 2 * s + 2) σ σ') (w : isWd (17 + 3 + 2 * s) l d σ') : CI (withS A (setW A.S s l d)) σ' := by
  refine ⟨by rw [e.i (by omega)]; exact c.n, by rw [e.i (by omega)]; exact c.er, by rw [e.i (by omega)]; exact c.hs, c.S.setW hs e w, fun s' h => (c.sv s' h).keep fun k _ _ j => e.i (by omega) j, by rw [e.i (by omega)]; exact c.tl, fun i hi => by rw [e.i (by omega)]; exact c.tx i hi, fun j hj => by rw [e.f (by omega)]; exact c.fl j hj, fun j hj => by rw [e.d (by omega)]; exact c.db j hj, ?_⟩
  rw [e.i (by omega)]
  exact c.tb.imp (fun t => ⟨t.1, by rw [e.i (by omega)]; exact t.2⟩) fun t => ⟨t.1, t.2.keep fun k _ _ j => e.i (by omega) j⟩
theorem MI.word {A : Abs} {σ σ' : Dz} (m : MI A σ) {s l : Nat} {d : Nat → Nat} (e : eqS 47 49 σ σ') (w : MSit 44 A.n (setW A.S s l d) σ') : MI (withS A (setW A.S s l d)) σ' := by
  refine ⟨by rw [e.m (by omega)]; exact m.n, by rw [e.m (by omega)]; exact m.er, by rw [e.m (by omega)]; exact m.hs, w, fun s' h => (m.sv s' h).keep fun k _ _ j => e.i (by omega) j, by rw [e.m (by omega)]; exact m.tl, fun i hi => by rw [e.i (by omega)]; exact m.tx i hi, fun j hj => by rw [e.f (by omega)]; exact m.fl j hj, fun j hj => by rw [e.d (by omega)]; exact m.db j hj, ?_⟩
  rw [e.m (by omega)]
  exact m.tb.imp id fun t => ⟨t.1, t.2.keep (e.m (by omega)) (e.m (by omega)) (fun j => e.i (by omega) j) (fun j => e.i (by omega) j)⟩
def okL (df : Nat → Bool) (x : Nat) : Prop := x < 10 ∧ df (x / 2) = true
theorem xor_10 : ∀ x, x < 10 → x ^^^ 1 < 10 ∧ (x ^^^ 1) / 2 = x / 2 := by decide
theorem okL.inv {df : Nat → Bool} {x : Nat} (h : okL df x) : okL df (x ^^^ 1) := ⟨(xor_10 x h.1).1, by rw [(xor_10 x h.1).2]; exact h.2⟩
theorem cat_ok {P : Nat → Prop} {l m : Nat} {d g : Nat → Nat} (h1 : ∀ i, i < l → P (d i)) (h2 : ∀ i, i < m → P (g i)) : ∀ i, i < l + m → P (catD d l g i) := by
  intro i hi
  by_cases h : i < l
  · rw [catD_0 _ _ _ h]; exact h1 i h
  · rw [catD_1 _ _ _ (by omega)]; exact h2 _ (by omega)
/-- a word backwards -/
def bck (l : Nat) (d : Nat → Nat) : Nat → Nat := fun i => d (l - 1 - i) ^^^ 1
theorem bck_ok {df : Nat → Bool} {l : Nat} {d : Nat → Nat} (h : ∀ i, i < l → okL df (d i)) : ∀ i, i < l → okL df (bck l d i) := fun i hi => (h (l - 1 - i) (by omega)).inv
/-- the class: begin a draft -/
theorem c_clear39 {A : Abs} {σ : Dz} {post : Dz → Prop} (hp : ∀ σ', eqO 39 41 σ σ' → (∀ d, isWd 39 0 d σ') → post σ') : P_X6_clear σ 39 post := by
  unfold P_X6_clear
  exact hp _ ((eo_r 39 41 σ).si (by omega) (by omega) _ _) fun d => ⟨gi_same _ _ _ _, by omega, fun i hi => absurd hi (by omega)⟩
theorem c_keep {A : Abs} {σ0 σ : Dz} (c : CI A σ0) (e0 : eqO 39 41 σ0 σ) {s l : Nat} {d : Nat → Nat} (hs : s < 4) (w : isWd 39 l d σ) {post : Int32 → Dz → Prop} (hp : ∀ σ', CI (withS A (setW A.S s l d)) σ' → eqO 0 43 σ0 σ' → post (nI l) σ') : P_X9_keepDraft σ (nI s) post :=
  q_keepDraft hs w fun σ' e w2 => hp σ' ((c.draft e0).word hs e w2) ((e0.mono (by omega) (by omega)).tr (e.mono (by omega) (by omega)))
theorem c_fwd {A : Abs} (o : okA A) {σ0 σ : Dz} (c : CI A σ0) (e0 : eqO 39 41 σ0 σ) {u l : Nat} {d : Nat → Nat} (hu : u < 4) (w : isWd 39 l d σ) {post : Int32 → Dz → Prop} (hp : l + A.S.wl u ≤ 200 → ∀ σ', eqO 39 41 σ0 σ' → isWd 39 (l + A.S.wl u) (catD d l (A.S.wd u)) σ' → post 1 σ') (hq : 200 < l + A.S.wl u → ∀ σ', eqO 39 41 σ0 σ' → post 0 σ') : P_X6_addAll σ 39 (17 + 3 + 2 * u) post :=
  q_addAll w ((c.draft e0).S.word o.S hu) (by omega) (fun h σ' e w2 => hp h σ' (e0.tr e) w2) (fun h σ' e => hq h σ' (e0.tr e))
theorem c_bck {A : Abs} (o : okA A) {σ0 σ : Dz} (c : CI A σ0) (e0 : eqO 39 41 σ0 σ) {u l : Nat} {d : Nat → Nat} (hu : u < 4) (w : isWd 39 l d σ) {post : Int32 → Dz → Prop} (hp : l + A.S.wl u ≤ 200 → ∀ σ', eqO 39 41 σ0 σ' → isWd 39 (l + A.S.wl u) (catD d l (bck (A.S.wl u) (A.S.wd u))) σ' → post 1 σ') (hq : 200 < l + A.S.wl u → ∀ σ', eqO 39 41 σ0 σ' → post 0 σ') : P_X6_addInverseOf σ 39 (17 + 3 + 2 * u) post :=
  q_addInverseOf w ((c.draft e0).S.word o.S hu) (by omega) (fun h σ' e w2 => hp h σ' (e0.tr e) w2) (fun h σ' e => hq h σ' (e0.tr e))
theorem m_fwd {A : Abs} (o : okA A) {σ0 σ : Dz} (m : MI A σ0) (e0 : eqS 57 61 σ0 σ) {u l : Nat} {d : Nat → Nat} {f : Bool} (hu : u < 4) (w : isMd l d f σ) {post : Dz → Prop} (hp : ∀ σ', eqS 57 61 σ0 σ' → isMd (min 200 (l + A.S.wl u)) (catD d l (A.S.wd u)) (f || decide (200 < l + A.S.wl u)) σ' → post σ') : P_X10_comesWord σ (nI u) 0 post :=
  m_comesWord w hu (o.S.le u hu) ((m.made e0).S.wl u hu) ((m.made e0).S.wd u hu) false (fun σ' e w2 => hp σ' (e0.tr (e.s.mono (by omega) (by omega))) w2)
theorem m_bck {A : Abs} (o : okA A) {σ0 σ : Dz} (m : MI A σ0) (e0 : eqS 57 61 σ0 σ) {u l : Nat} {d : Nat → Nat} {f : Bool} (hu : u < 4) (w : isMd l d f σ) {post : Dz → Prop} (hp : ∀ σ', eqS 57 61 σ0 σ' → isMd (min 200 (l + A.S.wl u)) (catD d l (bck (A.S.wl u) (A.S.wd u))) (f || decide (200 < l + A.S.wl u)) σ' → post σ') : P_X10_comesWord σ (nI u) 1 post :=
  m_comesWord w hu (o.S.le u hu) ((m.made e0).S.wl u hu) ((m.made e0).S.wd u hu) true (fun σ' e w2 => hp σ' (e0.tr (e.s.mono (by omega) (by omega))) w2)
theorem m_keep {A : Abs} (o : okA A) {σ0 σ : Dz} (m : MI A σ0) (e0 : eqS 57 61 σ0 σ) {s l : Nat} {d : Nat → Nat} {f : Bool} (hs : s < 4) (w : isMd l d f σ) {post : Int32 → Dz → Prop} (hp : ∀ σ', MI (withS A (setW A.S s l d)) σ' → eqO 43 66 σ0 σ' → gz_i σ' 43 0 = 0 → post (nI l) σ') : P_X10_keeps σ (nI s) post :=
  m_keeps w hs (m.made e0).S o.S fun σ' e w2 h0 => hp σ' ((m.made e0).word e w2) ((e0.eo (by omega) (by omega)).tr (e.eo (by omega) (by omega))) h0
/-- the class has made A1 and answered r, the model does the same -/
theorem both_i {A1 : Abs} {σ1 σ2 : Dz} (o : okA A1) (c : CI A1 σ1) {r y : Int32} (m : MI A1 σ2) (e : eqO 43 66 (sz_l σ1 66 ((0 : Int32)).toNatClampNeg r.toInt64) σ2) (h0 : gz_i σ2 43 0 = 0) {rc : Dz → Int32 → Prop} (hr : ∀ σ', Inv σ' → rc σ' y) : P_X10_thrown σ2 (fun (r214 : Int32) => ((r214 = 0 → ((¬ (0 : Int32) = 0 → rc σ2 y) ∧ ((0 : Int32) = 0 → (((lg_cmp (gz_l σ2 66 ((0 : Int32)).toNatClampNeg) ((r).toInt64)) = 0 → rc σ2 y) ∧ (¬ (lg_cmp (gz_l σ2 66 ((0 : Int32)).toNatClampNeg) ((r).toInt64)) = 0 → False))))) ∧ (¬ r214 = 0 → False))) :=
  tl_i h0 (fun _ => by rw [e.l (by omega)]; exact gl_same _ _ _ _) (hr _ ⟨A1, o, (c.sl _ _).byM e, m⟩)
theorem thrown_i {A1 : Abs} {σ1 : Dz} (o : okA A1) (c : CI A1 σ1) {k b y : Int32} (m : MI A1 σ1) (hk : k ≠ 0) {rc : Dz → Int32 → Prop} (hr : ∀ σ', Inv σ' → rc σ' y) : P_X10_thrown (sz_i σ1 43 0 k) (fun (r214 : Int32) => ((r214 = k → ((¬ k = 0 → rc (sz_i σ1 43 0 k) y) ∧ (k = 0 → (((lg_cmp (gz_l (sz_i σ1 43 0 k) 66 ((0 : Int32)).toNatClampNeg) ((b).toInt64)) = 0 → rc (sz_i σ1 43 0 k) y) ∧ (¬ (lg_cmp (gz_l (sz_i σ1 43 0 k) 66 ((0 : Int32)).toNatClampNeg) ((b).toInt64)) = 0 → False))))) ∧ (¬ r214 = k → False))) := bad_i o c m hk hr
theorem m_clr {A : Abs} {σ : Dz} {post : Dz → Prop} (hp : ∀ σ', eqS 57 61 σ σ' → (∀ d, isMd 0 d false σ') → post σ') : P_X10_clears σ post := m_clears fun σ' e h _ _ => hp σ' e.any h
theorem cs_invert {L : Nat} {xs : Nat → Int32} {rc : Dz → Int32 → Prop} {σ : Dz} {y5 : Int32} (h1 : vp_in (y5 + 1) L) (h2 : vp_in (y5 + 2) L) (hI : Inv σ) (hr : ∀ σ', Inv σ' → rc σ' (y5 + 4)) : B_L_law_663 L xs rc σ y5 := by
  unfold B_L_law_663 P_L_invert P_X9_invert P_X10_invert
  refine ⟨h1, h2, ?_⟩
  generalize xs (y5 + 1).toNatClampNeg = x
  generalize xs (y5 + 2).toNatClampNeg = z
  obtain ⟨A, o, c, m⟩ := hI
  rcases slots x with ⟨s, hs, rfl⟩ | ⟨hc, hm⟩
  · refine slot_c hs ?_
    rcases slots z with ⟨u, hu, rfl⟩ | ⟨hc, hm⟩
    · refine slot_c hu (c_clear39 (A := A) fun σ1 e1 w1 => q_word hu (c_bck o c e1 hu (w1 (fun _ => 0)) (fun hl σ2 e2 w2 => c_keep c e2 hs w2 fun σ3 c3 e3 => ⟨h1, h2, slot_m hs (br_f (by decide) (slot_m hu (bn_f (by decide) ?_)))⟩) (fun hl => absurd (o.S.le u hu) (by omega))))
      have m3 := (m.byC e3).sl ((0 : Int32)).toNatClampNeg (nI (0 + A.S.wl u)).toInt64
      refine m_clr (A := A) fun σ4 e4 w4 => m_bck o m3 e4 hu (w4 (fun _ => 0)) fun σ5 e5 w5 => ?_
      rw [Nat.min_eq_right hl] at w5
      exact m_keep o m3 e5 hs w5 fun σ6 m6 e6 h6 => both_i (o.setW hl (cat_ok (P := okL A.S.df) (fun i hi => absurd hi (by omega)) (bck_ok (o.S.ok u hu)))) c3 m6 e6 h6 hr
    · exact hc _ _ ⟨rfl, h1, h2, slot_m hs (br_f (by decide) (hm _ (bn_t rfl (bad_i o c m (by decide) hr))))⟩
  · exact hc _ _ ⟨rfl, h1, h2, hm _ (br_t rfl (bad_i o c m (by decide) hr))⟩
theorem cs_conjugate {L : Nat} {xs : Nat → Int32} {rc : Dz → Int32 → Prop} {σ : Dz} {y5 : Int32} (h1 : vp_in (y5 + 1) L) (h2 : vp_in (y5 + 2) L) (h3 : vp_in (y5 + 3) L) (hI : Inv σ) (hr : ∀ σ', Inv σ' → rc σ' (y5 + 4)) : B_L_law_731 L xs rc σ y5 := by
  unfold B_L_law_731 P_L_conjugate P_X9_conjugate P_X10_conjugate
  refine ⟨h1, h2, h3, ?_⟩
  generalize xs (y5 + 1).toNatClampNeg = x
  generalize xs (y5 + 2).toNatClampNeg = z
  generalize xs (y5 + 3).toNatClampNeg = t
  obtain ⟨A, o, c, m⟩ := hI
  rcases slots x with ⟨s, hs, rfl⟩ | ⟨hc, hm⟩
  · refine slot_c hs ?_
    rcases slots z with ⟨u, hu, rfl⟩ | ⟨hc, hm⟩
    · refine slot_c hu ?_
      rcases slots t with ⟨v, hv, rfl⟩ | ⟨hc, hm⟩
      · have lu := o.S.le u hu
        have lv := o.S.le v hv
        refine slot_c hv ?_
        have mod : ∀ σ' r, MI A σ' → ∀ post : Int32 → Dz → Prop, (0 + A.S.wl v + A.S.wl u + A.S.wl v ≤ 200 → ∀ σ6, MI (withS A (setW A.S s (0 + A.S.wl v + A.S.wl u + A.S.wl v) (catD (catD (catD (fun _ => 0) 0 (bck (A.S.wl v) (A.S.wd v))) (0 + A.S.wl v) (A.S.wd u)) (0 + A.S.wl v + A.S.wl u) (A.S.wd v)))) σ6 → eqO 43 66 σ' σ6 → gz_i σ6 43 0 = 0 → post (nI (0 + A.S.wl v + A.S.wl u + A.S.wl v)) σ6) → (200 < 0 + A.S.wl v + A.S.wl u + A.S.wl v → ∀ σ6, MI A σ6 → eqO 43 66 σ' σ6 → post 0 (sz_i σ6 43 0 2)) → r = nI s → P_X10_isSlot r (fun (r1 : Int32) => ((r1 = 0 → (P_X10_fails σ' (1 : Int32) post)) ∧ (¬ r1 = 0 → P_X10_isSlot (nI u) (fun r8 => ((r8 = 0 → (P_X10_fails σ' (1 : Int32) post)) ∧ (¬ r8 = 0 → P_X10_isSlot (nI v) (fun r15 => ((¬ r15 = 0 → (P_X10_clears σ' (fun (τ28 : Dz) => (P_X10_comesWord τ28 (nI v) (1 : Int32) (fun (τ34 : Dz) => (P_X10_comesWord τ34 (nI u) (0 : Int32) (fun (τ40 : Dz) => (P_X10_comesWord τ40 (nI v) (0 : Int32) (fun (τ46 : Dz) => (((gz_i τ46 43 23) = 0 → (P_X10_keeps τ46 r post)) ∧ (¬ (gz_i τ46 43 23) = 0 → (P_X10_fails τ46 (2 : Int32) post)))))))))))) ∧ (r15 = 0 → (P_X10_fails σ' (1 : Int32) post)))))))))) := by
          intro σ' r m' post hg hb er
          subst er
          refine slot_m hs (br_f (by decide) (slot_m hu (br_f (by decide) (slot_m hv (bn_f (by decide) ?_)))))
          refine m_clr (A := A) fun σ4 e4 w4 => m_bck o m' e4 hv (w4 (fun _ => 0)) fun σ5 e5 w5 => m_fwd o m' e5 hu w5 fun σ6 e6 w6 => m_fwd o m' e6 hv w6 fun σ7 e7 w7 => ?_
          by_cases hl : 0 + A.S.wl v + A.S.wl u + A.S.wl v ≤ 200
          · rw [Nat.min_eq_right (show 0 + A.S.wl v ≤ 200 by omega), Nat.min_eq_right (show 0 + A.S.wl v + A.S.wl u ≤ 200 by omega), Nat.min_eq_right hl, decide_eq_false (show ¬ 200 < 0 + A.S.wl v by omega), decide_eq_false (show ¬ 200 < 0 + A.S.wl v + A.S.wl u by omega), decide_eq_false (show ¬ 200 < 0 + A.S.wl v + A.S.wl u + A.S.wl v by omega)] at w7
            refine br_t (by rw [w7.2.2.2]; rfl) (m_keep o m' e7 hs w7 fun σ8 m8 e8 h8 => hg hl σ8 m8 e8 h8)
          · have hf := w7.2.2.2
            rw [if_pos (by simp only [Bool.or_eq_true, decide_eq_true_eq]; omega)] at hf
            exact br_f (by rw [hf]; decide) (hb (by omega) σ7 (m'.made e7) (e7.eo (by omega) (by omega)))
        refine c_clear39 (A := A) fun σ1 e1 w1 => q_word hv (c_bck o c e1 hv (w1 (fun _ => 0)) (fun l2 σ2 e2 w2 => br_f (by decide) (q_word hu (c_fwd o c e2 hu w2 (fun l3 σ3 e3 w3 => br_f (by decide) (q_word hv (c_fwd o c e3 hv w3 (fun l4 σ4 e4 w4 => br_f (by decide) (bn_f (by decide) (c_keep c e4 hs w4 fun σ5 c5 e5 => ⟨h1, h2, h3, ?_⟩))) (fun l4 σ4 e4 => br_t rfl (bn_t rfl (Or.inr ⟨rfl, h1, h2, h3, mod σ4 _ (m.byC (e4.mono (by omega) (by omega))) _ (fun h => absurd h (by omega)) (fun _ σ9 m9 e9 => bad_i o ((c.draft e4).byM e9) m9 (by decide) hr) rfl⟩)))))) (fun l3 σ3 e3 => br_t rfl (bn_t rfl (Or.inr ⟨rfl, h1, h2, h3, mod σ3 _ (m.byC (e3.mono (by omega) (by omega))) _ (fun h => absurd h (by omega)) (fun _ σ9 m9 e9 => bad_i o ((c.draft e3).byM e9) m9 (by decide) hr) rfl⟩)))))) (fun l2 => absurd l2 (by omega)))
        refine mod _ _ ((m.byC e5).sl _ _) _ (fun hl σ6 m6 e6 h6 => ?_) (fun h => absurd h (by omega)) rfl
        exact both_i (o.setW hl (cat_ok (P := okL A.S.df) (cat_ok (cat_ok (fun i hi => absurd hi (by omega)) (bck_ok (o.S.ok v hv))) (o.S.ok u hu)) (o.S.ok v hv))) c5 m6 e6 h6 hr
      · exact hc _ _ (Or.inl ⟨rfl, h1, h2, h3, slot_m hs (br_f (by decide) (slot_m hu (br_f (by decide) (hm _ (bn_t rfl (bad_i o c m (by decide) hr))))))⟩)
    · exact hc _ _ (Or.inl ⟨rfl, h1, h2, h3, slot_m hs (br_f (by decide) (hm _ (br_t rfl (bad_i o c m (by decide) hr))))⟩)
  · exact hc _ _ (Or.inl ⟨rfl, h1, h2, h3, hm _ (br_t rfl (bad_i o c m (by decide) hr))⟩)
theorem cs_commutator {L : Nat} {xs : Nat → Int32} {rc : Dz → Int32 → Prop} {σ : Dz} {y5 : Int32} (h1 : vp_in (y5 + 1) L) (h2 : vp_in (y5 + 2) L) (h3 : vp_in (y5 + 3) L) (hI : Inv σ) (hr : ∀ σ', Inv σ' → rc σ' (y5 + 4)) : B_L_law_811 L xs rc σ y5 := by
  unfold B_L_law_811 P_L_commutator P_X9_commutator P_X10_commutator
  refine ⟨h1, h2, h3, ?_⟩
  generalize xs (y5 + 1).toNatClampNeg = x
  generalize xs (y5 + 2).toNatClampNeg = z
  generalize xs (y5 + 3).toNatClampNeg = t
  obtain ⟨A, o, c, m⟩ := hI
  rcases slots x with ⟨s, hs, rfl⟩ | ⟨hc, hm⟩
  · refine slot_c hs ?_
    rcases slots z with ⟨u, hu, rfl⟩ | ⟨hc, hm⟩
    · refine slot_c hu ?_
      rcases slots t with ⟨v, hv, rfl⟩ | ⟨hc, hm⟩
      · have lu := o.S.le u hu
        have lv := o.S.le v hv
        refine slot_c hv ?_
        have mod : ∀ σ' r, MI A σ' → ∀ post : Int32 → Dz → Prop, (0 + A.S.wl u + A.S.wl v + A.S.wl u + A.S.wl v ≤ 200 → ∀ σ6, MI (withS A (setW A.S s (0 + A.S.wl u + A.S.wl v + A.S.wl u + A.S.wl v) (catD (catD (catD (catD (fun _ => 0) 0 (A.S.wd u)) (0 + A.S.wl u) (A.S.wd v)) (0 + A.S.wl u + A.S.wl v) (bck (A.S.wl u) (A.S.wd u))) (0 + A.S.wl u + A.S.wl v + A.S.wl u) (bck (A.S.wl v) (A.S.wd v))))) σ6 → eqO 43 66 σ' σ6 → gz_i σ6 43 0 = 0 → post (nI (0 + A.S.wl u + A.S.wl v + A.S.wl u + A.S.wl v)) σ6) → (200 < 0 + A.S.wl u + A.S.wl v + A.S.wl u + A.S.wl v → ∀ σ6, MI A σ6 → eqO 43 66 σ' σ6 → post 0 (sz_i σ6 43 0 2)) → r = nI s → P_X10_isSlot r (fun (r1 : Int32) => ((r1 = 0 → (P_X10_fails σ' (1 : Int32) post)) ∧ (¬ r1 = 0 → P_X10_isSlot (nI u) (fun r8 => ((r8 = 0 → (P_X10_fails σ' (1 : Int32) post)) ∧ (¬ r8 = 0 → P_X10_isSlot (nI v) (fun r15 => ((¬ r15 = 0 → (P_X10_clears σ' (fun (τ28 : Dz) => (P_X10_comesWord τ28 (nI u) (0 : Int32) (fun (τ34 : Dz) => (P_X10_comesWord τ34 (nI v) (0 : Int32) (fun (τ40 : Dz) => (P_X10_comesWord τ40 (nI u) (1 : Int32) (fun (τ46 : Dz) => (P_X10_comesWord τ46 (nI v) (1 : Int32) (fun (τ52 : Dz) => (((gz_i τ52 43 23) = 0 → (P_X10_keeps τ52 r post)) ∧ (¬ (gz_i τ52 43 23) = 0 → (P_X10_fails τ52 (2 : Int32) post)))))))))))))) ∧ (r15 = 0 → (P_X10_fails σ' (1 : Int32) post)))))))))) := by
          intro σ' r m' post hg hb er
          subst er
          refine slot_m hs (br_f (by decide) (slot_m hu (br_f (by decide) (slot_m hv (bn_f (by decide) ?_)))))
          refine m_clr (A := A) fun σ4 e4 w4 => m_fwd o m' e4 hu (w4 (fun _ => 0)) fun σ5 e5 w5 => m_fwd o m' e5 hv w5 fun σ6 e6 w6 => m_bck o m' e6 hu w6 fun σ6 e6 w6 => m_bck o m' e6 hv w6 fun σ7 e7 w7 => ?_
          by_cases hl : 0 + A.S.wl u + A.S.wl v + A.S.wl u + A.S.wl v ≤ 200
          · rw [Nat.min_eq_right (show 0 + A.S.wl u ≤ 200 by omega), Nat.min_eq_right (show 0 + A.S.wl u + A.S.wl v ≤ 200 by omega), Nat.min_eq_right (show 0 + A.S.wl u + A.S.wl v + A.S.wl u ≤ 200 by omega), Nat.min_eq_right hl, decide_eq_false (show ¬ 200 < 0 + A.S.wl u by omega), decide_eq_false (show ¬ 200 < 0 + A.S.wl u + A.S.wl v by omega), decide_eq_false (show ¬ 200 < 0 + A.S.wl u + A.S.wl v + A.S.wl u by omega), decide_eq_false (show ¬ 200 < 0 + A.S.wl u + A.S.wl v + A.S.wl u + A.S.wl v by omega)] at w7
            refine br_t (by rw [w7.2.2.2]; rfl) (m_keep o m' e7 hs w7 fun σ8 m8 e8 h8 => hg hl σ8 m8 e8 h8)
          · have hf := w7.2.2.2
            rw [if_pos (by simp only [Bool.or_eq_true, decide_eq_true_eq]; omega)] at hf
            exact br_f (by rw [hf]; decide) (hb (by omega) σ7 (m'.made e7) (e7.eo (by omega) (by omega)))
        refine c_clear39 (A := A) fun σ1 e1 w1 => q_word hu (c_fwd o c e1 hu (w1 (fun _ => 0)) (fun l2 σ2 e2 w2 => br_f (by decide) (q_word hv (c_fwd o c e2 hv w2 (fun l3 σ3 e3 w3 => br_f (by decide) (q_word hu (c_bck o c e3 hu w3 (fun l4 σ4 e4 w4 => br_f (by decide) (q_word hv (c_bck o c e4 hv w4 (fun l6 σ6 e6 w6 => br_f (by decide) (bn_f (by decide) (c_keep c e6 hs w6 fun σ5 c5 e5 => ⟨h1, h2, h3, ?_⟩))) (fun l6 σ6 e6 => br_t rfl (bn_t rfl (Or.inr ⟨rfl, h1, h2, h3, mod σ6 _ (m.byC (e6.mono (by omega) (by omega))) _ (fun h => absurd h (by omega)) (fun _ σ9 m9 e9 => bad_i o ((c.draft e6).byM e9) m9 (by decide) hr) rfl⟩)))))) (fun l4 σ4 e4 => br_t rfl (bn_t rfl (Or.inr ⟨rfl, h1, h2, h3, mod σ4 _ (m.byC (e4.mono (by omega) (by omega))) _ (fun h => absurd h (by omega)) (fun _ σ9 m9 e9 => bad_i o ((c.draft e4).byM e9) m9 (by decide) hr) rfl⟩)))))) (fun l3 σ3 e3 => br_t rfl (bn_t rfl (Or.inr ⟨rfl, h1, h2, h3, mod σ3 _ (m.byC (e3.mono (by omega) (by omega))) _ (fun h => absurd h (by omega)) (fun _ σ9 m9 e9 => bad_i o ((c.draft e3).byM e9) m9 (by decide) hr) rfl⟩)))))) (fun l2 => absurd l2 (by omega)))
        refine mod _ _ ((m.byC e5).sl _ _) _ (fun hl σ6 m6 e6 h6 => ?_) (fun h => absurd h (by omega)) rfl
        exact both_i (o.setW hl (cat_ok (P := okL A.S.df) (cat_ok (cat_ok (cat_ok (fun i hi => absurd hi (by omega)) (o.S.ok u hu)) (o.S.ok v hv)) (bck_ok (o.S.ok u hu))) (bck_ok (o.S.ok v hv)))) c5 m6 e6 h6 hr
      · exact hc _ _ (Or.inl ⟨rfl, h1, h2, h3, slot_m hs (br_f (by decide) (slot_m hu (br_f (by decide) (hm _ (bn_t rfl (bad_i o c m (by decide) hr))))))⟩)
    · exact hc _ _ (Or.inl ⟨rfl, h1, h2, h3, slot_m hs (br_f (by decide) (hm _ (br_t rfl (bad_i o c m (by decide) hr))))⟩)
  · exact hc _ _ (Or.inl ⟨rfl, h1, h2, h3, hm _ (br_t rfl (bad_i o c m (by decide) hr))⟩)
end QWordCases
