/-! store -/
section QStore
theorem lk_mono {df : Nat → Bool} {t : Nat → Nat} {i : Nat} (h : lkN df t i = true) : ∀ k, lkN df t (i + k) = true
  | 0 => h
  | k + 1 => by
    show (lkN df t (i + k) || _) = true
    rw [lk_mono h k, Bool.true_or]
theorem lk_all {df : Nat → Bool} {t : Nat → Nat} {L i : Nat} (h : lkN df t L = false) (hi : i < L) (hn : 97 ≤ t i ∧ t i ≤ 101) : df (t i - 97) = true := by
  cases hd : df (t i - 97) with
  | true => rfl
  | false =>
    have h1 : lkN df t (i + 1) = true := by rw [lk_yes hn, hd]; cases lkN df t i <;> rfl
    have := lk_mono h1 (L - (i + 1))
    rw [show i + 1 + (L - (i + 1)) = L by omega, h] at this
    cases this
theorem c_defines {A : Abs} (o : okA A) {σ : Dz} (c : CI A σ) {post : Int32 → Prop} (hp : post (if lkN A.S.df A.tx A.tl then 0 else 1)) : P_X4_definesNamesIn σ 17 post := by
  unfold P_X4_definesNamesIn
  have hl := o.tl
  have key : ∀ k i, i + k = A.tl → lkN A.S.df A.tx i = false → L_X4_definesNamesIn_2 σ 17 post (k + 1) (nI i) := by
    intro k
    induction k with
    | zero =>
      intro i hi hk
      show B_X4_definesNamesIn_2 _ _ _ _ _
      unfold B_X4_definesNamesIn_2 P_X5_length
      have : i = A.tl := by omega
      subst this
      rw [hk] at hp
      rw [c.tl]
      exact br_t (Int32.le_refl _) hp
    | succ k ih =>
      intro i hi hk
      show B_X4_definesNamesIn_2 _ _ _ _ _
      unfold B_X4_definesNamesIn_2 B_X4_definesNamesIn_36 P_X5_length
      have ht := o.tx i (by omega)
      rw [c.tl]
      refine br_f (by simp (disch := omega) only [fa_lit, nI_add, pk_mul, nI_ltI, nI_leI, nI_eq] <;> omega) (q_textAt o c.tl c.tx (by omega) (q_isName (by omega) (fun hn => br_f (by decide) ?_) (fun hn => br_t rfl ?_)))
      · rw [show nI (A.tx i) - 97 = nI (A.tx i - 97) from pk_sub (b := 97) (by omega)]
        refine q_isDefined c.S (by omega) ?_
        have hy := lk_yes (df := A.S.df) (t := A.tx) (i := i) hn
        cases hd : A.S.df (A.tx i - 97) with
        | true =>
          refine bn_f (by decide) ?_
          rw [nI_1]
          exact ih (i + 1) (by omega) (by rw [hy, hk, hd]; rfl)
        | false =>
          refine bn_t rfl ?_
          have := lk_mono (show lkN A.S.df A.tx (i + 1) = true by rw [hy, hk, hd]; rfl) k
          rw [show i + 1 + k = A.tl by omega] at this
          rw [this] at hp; exact hp
      · rw [nI_1]
        exact ih (i + 1) (by omega) (by rw [lk_no hn]; exact hk)
  exact ⟨A.tl + 1, key A.tl 0 (by omega) rfl⟩
/-! the letters are those of defined moves -/
def okM (df : Nat → Bool) (m : List Nat) : Prop := ∀ x, x ∈ m → okL df x
theorem okM.app {df : Nat → Bool} {m m' : List Nat} (h : okM df m) (h' : okM df m') : okM df (m ++ m') := fun x hx => (List.mem_append.mp hx).elim (h x) (h' x)
theorem okM.inv {df : Nat → Bool} {m : List Nat} (h : okM df m) : okM df (invL m) := fun x hx => by
  unfold invL at hx
  rw [List.mem_reverse] at hx
  obtain ⟨y, hy, e⟩ := List.mem_map.mp hx
  rw [← e]; exact (h y hy).inv
theorem okM.rep {df : Nat → Bool} {m : List Nat} (h : okM df m) : ∀ k, okM df (repL m k)
  | 0 => fun x hx => by cases hx
  | k + 1 => h.app (okM.rep h k)
theorem okM.beh {df : Nat → Bool} {m : List Nat} (h : okM df m) (L : Nat) (t : Nat → Nat) (j : Nat) : okM df (rdB L t j m).2 := by
  have h1 : okM df (rdB1 L t j m).2 := by
    unfold rdB1; split
    · exact h.inv
    · exact h
  unfold rdB rdB2
  split
  · exact h1.rep _
  · exact h1
theorem okE {L : Nat} {t : Nat → Nat} {df : Nat → Bool} (hk : lkN df t L = false) {rw : Nat → Nat → Res} {op : Nat} (hw : ∀ i j m, rw (op + 1) i = .inr (j, m) → okM df m) {i j : Nat} {m : List Nat} (hi : i < L) (hr : rdE L t rw op i = .inr (j, m)) : okM df m := by
  by_cases hn : 97 ≤ chT L t i ∧ chT L t i ≤ 101
  · rw [rdE_name hn] at hr
    cases hr
    rw [ch_in hi] at hn ⊢
    intro x hx
    rw [List.mem_singleton.mp hx]
    refine ⟨by omega, ?_⟩
    rw [show 2 * (t i - 97) / 2 = t i - 97 by omega]
    exact lk_all hk hi hn
  · by_cases h6 : op = 6
    · subst h6
      rw [rdE_six hn] at hr; cases hr
    · rw [rdE_go hn h6] at hr
      cases hr1 : rw (op + 1) (i + 1) with
      | inl e => rw [hr1] at hr; cases hr
      | inr p =>
        obtain ⟨j1, m1⟩ := p
        have o1 := hw _ _ _ hr1
        rw [hr1] at hr
        have hr : (if chT L t i = 60 then (if chT L t j1 = 44 then rdG L t m1 (rw (op + 1) (j1 + 1)) else .inl j1) else if chT L t j1 = 41 then .inr (j1 + 1, m1) else .inl j1 : Res) = .inr (j, m) := hr
        split at hr
        · split at hr
          · cases hr2 : rw (op + 1) (j1 + 1) with
            | inl e => rw [hr2] at hr; cases hr
            | inr p2 =>
              obtain ⟨k, m2⟩ := p2
              have o2 := hw _ _ _ hr2
              rw [hr2] at hr
              have hr : (if chT L t k = 62 then .inr (k + 1, m1 ++ m2 ++ invL m1 ++ invL m2) else .inl k : Res) = .inr (j, m) := hr
              split at hr
              · cases hr
                exact ((o1.app o2).app o1.inv).app o2.inv
              · cases hr
          · cases hr
        · split at hr
          · cases hr; exact o1
          · cases hr
theorem okLp {L : Nat} {t : Nat → Nat} {df : Nat → Bool} {re : Nat → Nat → Res} {op : Nat} (he : ∀ i j m, i < L → re op i = .inr (j, m) → okM df m) : ∀ n i j m, rdL L t re op n i = .inr (j, m) → okM df m
  | 0, i, j, m, hr => by cases hr
  | n + 1, i, j, m, hr => by
    unfold rdL at hr
    split at hr
    · rename_i hst
      have hi2 : i < L := ch_lt (t := t) (by rw [stC_t] at hst; omega)
      cases hre : re op i with
      | inl e => rw [hre] at hr; cases hr
      | inr p =>
        obtain ⟨j1, m1⟩ := p
        rw [hre] at hr
        have hr : rdC (rdB L t j1 m1).2 (rdL L t re op n (rdB L t j1 m1).1) = .inr (j, m) := hr
        cases hr2 : rdL L t re op n (rdB L t j1 m1).1 with
        | inl e => rw [hr2] at hr; cases hr
        | inr p2 =>
          obtain ⟨k, m2⟩ := p2
          have o2 := okLp he n _ _ _ hr2
          rw [hr2] at hr
          have hr : (Sum.inr (k, (rdB L t j1 m1).2 ++ m2) : Res) = .inr (j, m) := hr
          cases hr
          exact ((he i j1 m1 hi2 hre).beh L t j1).app o2
    · cases hr
      exact fun x hx => by cases hx
theorem okWd {L : Nat} {t : Nat → Nat} {df : Nat → Bool} (hk : lkN df t L = false) : ∀ d op i j m, RW L t d op i = .inr (j, m) → okM df m
  | 0, _, _, _, _, hr => by cases hr
  | d + 1, op, i, j, m, hr => okLp (fun i j m hi h => okE hk (fun i j m h => okWd hk d (op + 1) i j m h) hi h) 41 i j m hr
/-! texts away -/
theorem CI.txt {A : Abs} {σ : Dz} (c : CI A σ) : CI (defA A A.S A.er) (sz_i σ 1 1 0) := by
  have row : ∀ k j, k ≠ 1 → gz_i (sz_i σ 1 1 0) k j = gz_i σ k j := fun k j h => gi_cell h
  refine ⟨by rw [row _ _ (by omega)]; exact c.n, by rw [row _ _ (by omega)]; exact c.er, by rw [row _ _ (by omega)]; exact c.hs, c.S.keep fun k _ _ j => row k j (by omega), fun s h => (c.sv s h).keep fun k _ _ j => row k j (by omega), gi_same _ _ _ _, fun i hi => absurd hi (Nat.not_lt_zero i), c.fl, c.db, ?_⟩
  rw [row _ _ (by omega)]
  exact c.tb.imp (fun t => ⟨t.1, by rw [row _ _ (by omega)]; exact t.2⟩) fun t => ⟨t.1, t.2.keep fun k _ _ j => row k j (by omega)⟩
theorem MI.txt {A : Abs} {σ : Dz} (m : MI A σ) : MI (defA A A.S A.er) (sz_i σ 43 8 0) := by
  have row : ∀ k j, k ≠ 43 → gz_i (sz_i σ 43 8 0) k j = gz_i σ k j := fun k j h => gi_cell h
  have fld : ∀ j, j ≠ 8 → gz_i (sz_i σ 43 8 0) 43 j = gz_i σ 43 j := fun j h => gi_pl h
  refine ⟨by rw [fld _ (by omega)]; exact m.n, by rw [fld _ (by omega)]; exact m.er, by rw [fld _ (by omega)]; exact m.hs, m.S.keep fun k _ _ j => row k j (by omega), fun s h => (m.sv s h).keep fun k _ _ j => row k j (by omega), gi_same _ _ _ _, fun i hi => absurd hi (Nat.not_lt_zero i), m.fl, m.db, ?_⟩
  rw [fld _ (by omega)]
  exact m.tb.imp id fun t => ⟨t.1, t.2.keep (fld _ (by omega)) (fld _ (by omega)) (fun j => row _ j (by omega)) (fun j => row _ j (by omega))⟩
theorem CI.wr {A : Abs} {σ σ' : Dz} (c : CI A σ) (e : eqW σ σ') : CI A σ' := c.keep fun k hk j => ⟨(e k (by omega) j).1, (e k (by omega) j).2.1, (e k (by omega) j).2.2.1⟩
theorem CI.ck {A : Abs} {σ σ' : Dz} (c : CI A σ) (e : eqO 4 6 σ σ') : CI A σ' := c.keep fun k hk j => ⟨e.i (by omega) j, e.f (by omega) j, e.d (by omega) j⟩
/-- the model -/
theorem m_store {A : Abs} (o : okA A) {σ : Dz} (m : MI A σ) {s : Nat} (hs : s < 4) {post : Int32 → Dz → Prop} (h1 : ∀ e, rdT A.tl A.tx = .inl e → ∀ σ', eqS 57 61 σ σ' → post 0 (sz_i (sz_i (sz_i σ' 43 8 0) 43 9 (nI e)) 43 0 2)) (h2 : ∀ w, rdT A.tl A.tx = .inr w → ∀ σ', eqS 57 61 σ σ' → gz_i σ' 43 24 = (if lkN A.S.df A.tx A.tl then 1 else 0) → MM w σ' → B_X10_store_45 post σ' (nI s) 1) : P_X10_store σ (nI s) post := by
  unfold P_X10_store
  refine slot_m hs (bn_f (by decide) (m_clears fun σ1 e1 w1 l1 o1 => ?_))
  have hl := o.tl
  have bad : ∀ e σ', eqS 57 61 σ σ' → gz_i σ' 43 18 = nI e → rdT A.tl A.tx = .inl e → B_X10_store_44 post σ' (nI s) := fun e σ' e' a' hr => by
    unfold B_X10_store_44 B_X10_store_45 P_X10_fails
    refine bn_t rfl ?_
    rw [gi_pl (by omega), a']
    exact h1 e hr σ' e'
  unfold rdT at bad h2
  refine m_all o m 6 0 (by omega) 0 [] _ _ (Nat.zero_le _) ((eqS.any e1).s43 (by unfold scr; omega) _) ⟨gi_same _ _ _ _, by rw [gi_pl (by omega)]; exact o1, by rw [gi_pl (by omega)]; exact l1, ?_⟩ (fun e he σ' e' a' => br_t rfl ?_) (fun j w hj σ' e' h' => br_f (by decide) ?_)
  · have : MM [] σ1 := Or.inl ⟨Nat.zero_le _, w1 _⟩
    exact this.keep (fun j => gi_cell (by omega)) (gi_pl (by omega)) (gi_pl (by omega))
  · rw [he] at bad
    exact bad e σ' e' a' rfl
  · rw [hj] at bad h2
    have pj := (pgW A.tl A.tx 7 0 0 (Nat.zero_le _)).2 j w hj
    rw [h'.at_, e'.m (by omega), m.tl]
    by_cases z : j = A.tl
    · refine bn_t (by rw [z]) (h2 w (if_pos z) σ' e' ?_ h'.mm)
      rw [h'.lk, z]
    · exact bn_f (by rw [nI_eq (by omega) (by omega)]; exact z) (bad j σ' e' h'.at_ (if_neg z))
theorem cs_store {L : Nat} {xs : Nat → Int32} {rc : Dz → Int32 → Prop} {σ : Dz} {y5 : Int32} (g1 : vp_in (y5 + 1) L) (hI : Inv σ) (hr : ∀ σ', Inv σ' → rc σ' (y5 + 4)) : B_L_law_371 L xs rc σ y5 := by
  unfold B_L_law_371 P_L_store P_X9_store
  refine ⟨g1, ?_⟩
  generalize xs (y5 + 1).toNatClampNeg = x
  obtain ⟨A, o, c, m⟩ := hI
  have oA := defA_ok o o.S o.er
  rcases slots x with ⟨s, hs, rfl⟩ | ⟨hc, hm⟩
  · refine slot_c hs (c_check o c (fun e he hle σ1 e1 => bn_f (nI_m1 (by omega)) ?_) (fun w hw σ1 e1 => bn_t rfl (c_defines o (c.ck e1) ?_)))
    · unfold B_X9_store_39 B_X9_store_40 B_X9_store_67 B_X9_store_68 P_X5_clear
      refine br_t rfl (br_f (nI_m1 (by omega)) (Or.inr (Or.inl ⟨rfl, g1, ?_⟩)))
      have e2 : eqO 0 43 σ (sz_i (sz_i σ1 1 1 0) 0 12 (nI e)) := ((e1.mono (by omega) (by omega)).si (by omega) (by omega) _ _).si (by omega) (by omega) _ _
      have c2 := c.err (e1.mono (by omega) (by omega)) (nI e)
      refine m_store o (m.byC e2) hs (fun e' he' σ3 e3 => ?_) (fun w hw => by rw [he] at hw; cases hw)
      rw [he] at he'
      cases he'
      have m4 := (m.byC e2).err e3 (nI e) 2
      exact tl_i (gi_same _ _ _ _) (fun z => absurd z (by decide)) (hr _ ⟨defA A A.S (nI e), defA_ok o o.S (Or.inr ⟨e, by omega, rfl⟩), c2.byM ((((e3.eo (by omega) (by omega)).si (by omega) (by omega) _ _).si (by omega) (by omega) _ _).si (by omega) (by omega) _ _), m4⟩)
    · have c1 := c.ck e1
      cases hk : lkN A.S.df A.tx A.tl with
      | true =>
        refine br_t rfl ?_
        unfold B_X9_store_39 B_X9_store_40 B_X9_store_67 B_X9_store_68 P_X5_clear
        refine br_t rfl (br_t rfl (bn_t rfl (Or.inr (Or.inr (Or.inl ⟨rfl, g1, ?_⟩)))))
        have e2 : eqO 0 43 σ (sz_i σ1 1 1 0) := (e1.mono (by omega) (by omega)).si (by omega) (by omega) _ _
        have m2 := m.byC e2
        refine m_store o m2 hs (fun e he => by rw [hw] at he; cases he) (fun w' hw' σ3 e3 l3 w3 => ?_)
        unfold B_X10_store_45 P_X10_fails
        refine bn_f (by decide) (br_f ?_ ?_)
        · rw [gi_pl (by omega), l3, hk]; decide
        · exact thrown_i oA (c1.txt.byM ((e3.eo (by omega) (by omega)).si (by omega) (by omega) _ _)) ((m2.made e3).txt) (by decide) hr
      | false =>
        refine br_f (by decide) ?_
        unfold B_X9_store_40
        refine br_f (by decide) (c_write o c1 hw (fun hlen σ2 e2 => br_t rfl ?_) (fun hlen σ2 e2 w2 => br_f (by decide) ?_))
        · unfold B_X9_store_67 B_X9_store_68 P_X5_clear
          refine br_t rfl (bn_f (by decide) (bn_t rfl (Or.inr (Or.inr (Or.inr ⟨rfl, g1, ?_⟩)))))
          have e3 : eqO 0 43 σ (sz_i σ2 1 1 0) := eqO.si (fun k hk j => ⟨((e2 k (by omega) j).1).trans ((e1 k (by omega) j).1), ((e2 k (by omega) j).2.1).trans ((e1 k (by omega) j).2.1), ((e2 k (by omega) j).2.2.1).trans ((e1 k (by omega) j).2.2.1), ((e2 k (by omega) j).2.2.2).trans ((e1 k (by omega) j).2.2.2)⟩) (by omega) (by omega) _ _
          have m2 := m.byC e3
          refine m_store o m2 hs (fun e he => by rw [hw] at he; cases he) (fun w' hw' σ3 e4 l3 w3 => ?_)
          rw [hw] at hw'
          cases hw'
          unfold B_X10_store_45 P_X10_fails
          refine bn_f (by decide) (br_t (by rw [gi_pl (by omega), l3, hk]; rfl) (br_f ?_ ?_))
          · rw [gi_pl (by omega)]
            rcases w3 with ⟨a, -⟩ | ⟨-, -, b⟩
            · omega
            · rw [b]; decide
          · exact thrown_i oA ((c1.wr e2).txt.byM ((e4.eo (by omega) (by omega)).si (by omega) (by omega) _ _)) ((m2.made e4).txt) (by decide) hr
        · unfold B_X9_store_68 P_X5_clear
          refine br_t rfl (bn_f (by decide) (bn_f (by decide) ?_))
          have c3 := (c1.wr e2).txt
          have w3 : isL w (sz_i σ2 1 1 0) := w2.keep fun c a b j => gi_cell (by omega)
          refine c_keep c3 (eo_r 39 41 _) hs w3 fun σ4 c4 e4 => ⟨g1, ?_⟩
          have e3 : eqO 0 43 σ (sz_i σ2 1 1 0) := eqO.si (fun k hk j => ⟨((e2 k (by omega) j).1).trans ((e1 k (by omega) j).1), ((e2 k (by omega) j).2.1).trans ((e1 k (by omega) j).2.1), ((e2 k (by omega) j).2.2.1).trans ((e1 k (by omega) j).2.2.1), ((e2 k (by omega) j).2.2.2).trans ((e1 k (by omega) j).2.2.2)⟩) (by omega) (by omega) _ _
          have m2 := (m.byC (e3.tr e4)).sl ((0 : Int32)).toNatClampNeg (nI w.length).toInt64
          refine m_store o m2 hs (fun e he => by rw [hw] at he; cases he) (fun w' hw' σ5 e5 l5 w5 => ?_)
          rw [hw] at hw'
          cases hw'
          have w6 : isMd w.length (fun q => w.getD q 0) false σ5 := by
            rcases w5 with ⟨-, b⟩ | ⟨b, -⟩
            · exact b
            · omega
          unfold B_X10_store_45
          refine bn_f (by decide) (br_t (by rw [gi_pl (by omega), l5, hk]; rfl) (br_t (by rw [gi_pl (by omega)]; exact w6.2.2.2) ?_))
          have w7 : isMd w.length (fun q => w.getD q 0) false (sz_i σ5 43 8 0) := ⟨by rw [gi_pl (by omega)]; exact w6.1, w6.2.1, fun i hi => by rw [gi_cell (by omega)]; exact w6.2.2.1 i hi, by rw [gi_pl (by omega)]; exact w6.2.2.2⟩
          refine m_keep oA ((m2.made e5).txt) (es_r 57 61 _) hs w7 fun σ6 m6 e6 h6 => ?_
          refine both_i (oA.setW hlen fun i hi => ?_) c4 m6 (((e5.eo (by omega) (by omega)).si (by omega) (by omega) _ _).tr e6) h6 hr
          exact okWd hk 7 0 0 _ _ (rdT_r hw) _ (memD.mpr ⟨i, hi, rfl⟩)
  · exact hc _ _ (Or.inl ⟨rfl, g1, by unfold P_X10_store P_X10_fails; exact hm _ (bn_t rfl (bad_i o c m (by decide) hr))⟩)
end QStore
