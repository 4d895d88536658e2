/-! the data: what stays, the two situations, the invariant -/
section QFrame
theorem bn_f {c A B : Prop} (h : ¬ c) (a : A) : (¬ c → A) ∧ (c → B) := ⟨fun _ => a, fun z => absurd z h⟩
theorem bn_t {c A B : Prop} (h : c) (b : B) : (¬ c → A) ∧ (c → B) := ⟨fun z => absurd h z, fun _ => b⟩
theorem gi_same (σ : Dz) (k j : Nat) (v : Int32) : gz_i (sz_i σ k j v) k j = v := by
  simp [gz_i, sz_i, va_up, upd]
theorem gi_cell {σ : Dz} {k j : Nat} {v : Int32} {k' j' : Nat} (h : k' ≠ k) : gz_i (sz_i σ k j v) k' j' = gz_i σ k' j' := by
  simp [gz_i, sz_i, va_up, h]
theorem gi_pl {σ : Dz} {k j : Nat} {v : Int32} {j' : Nat} (h : j' ≠ j) : gz_i (sz_i σ k j v) k j' = gz_i σ k j' := by
  simp [gz_i, sz_i, va_up, upd, h]
theorem gi_f (σ : Dz) (k j : Nat) (v : UInt32) (k' j' : Nat) : gz_i (sz_f σ k j v) k' j' = gz_i σ k' j' := rfl
theorem gi_d (σ : Dz) (k j : Nat) (v : UInt64) (k' j' : Nat) : gz_i (sz_d σ k j v) k' j' = gz_i σ k' j' := rfl
theorem gi_l (σ : Dz) (k j : Nat) (v : Int64) (k' j' : Nat) : gz_i (sz_l σ k j v) k' j' = gz_i σ k' j' := rfl
theorem gl_i (σ : Dz) (k j : Nat) (v : Int32) (k' j' : Nat) : gz_l (sz_i σ k j v) k' j' = gz_l σ k' j' := rfl
theorem gl_f (σ : Dz) (k j : Nat) (v : UInt32) (k' j' : Nat) : gz_l (sz_f σ k j v) k' j' = gz_l σ k' j' := rfl
theorem gl_d (σ : Dz) (k j : Nat) (v : UInt64) (k' j' : Nat) : gz_l (sz_d σ k j v) k' j' = gz_l σ k' j' := rfl
theorem gl_same (σ : Dz) (k j : Nat) (v : Int64) : gz_l (sz_l σ k j v) k j = v := by
  simp [gz_l, sz_l, va_up, vp_updL]
theorem gd_i (σ : Dz) (k j : Nat) (v : Int32) (k' j' : Nat) : gz_d (sz_i σ k j v) k' j' = gz_d σ k' j' := rfl
theorem gd_f (σ : Dz) (k j : Nat) (v : UInt32) (k' j' : Nat) : gz_d (sz_f σ k j v) k' j' = gz_d σ k' j' := rfl
theorem gd_l (σ : Dz) (k j : Nat) (v : Int64) (k' j' : Nat) : gz_d (sz_l σ k j v) k' j' = gz_d σ k' j' := rfl
theorem gd_same (σ : Dz) (k j : Nat) (v : UInt64) : gz_d (sz_d σ k j v) k j = v := by
  simp [gz_d, sz_d, va_up, vf_upd]
theorem gd_cell {σ : Dz} {k j : Nat} {v : UInt64} {k' j' : Nat} (h : k' ≠ k) : gz_d (sz_d σ k j v) k' j' = gz_d σ k' j' := by
  simp [gz_d, sz_d, va_up, h]
theorem gd_pl {σ : Dz} {k j : Nat} {v : UInt64} {j' : Nat} (h : j' ≠ j) : gz_d (sz_d σ k j v) k j' = gz_d σ k j' := by
  simp [gz_d, sz_d, va_up, vf_upd, h]
theorem gf_i (σ : Dz) (k j : Nat) (v : Int32) (k' j' : Nat) : gz_f (sz_i σ k j v) k' j' = gz_f σ k' j' := rfl
theorem gf_d (σ : Dz) (k j : Nat) (v : UInt64) (k' j' : Nat) : gz_f (sz_d σ k j v) k' j' = gz_f σ k' j' := rfl
theorem gf_l (σ : Dz) (k j : Nat) (v : Int64) (k' j' : Nat) : gz_f (sz_l σ k j v) k' j' = gz_f σ k' j' := rfl
theorem gf_same (σ : Dz) (k j : Nat) (v : UInt32) : gz_f (sz_f σ k j v) k j = v := by
  simp [gz_f, sz_f, va_up, vf_upd]
theorem gf_cell {σ : Dz} {k j : Nat} {v : UInt32} {k' j' : Nat} (h : k' ≠ k) : gz_f (sz_f σ k j v) k' j' = gz_f σ k' j' := by
  simp [gz_f, sz_f, va_up, h]
theorem gf_pl {σ : Dz} {k j : Nat} {v : UInt32} {j' : Nat} (h : j' ≠ j) : gz_f (sz_f σ k j v) k j' = gz_f σ k j' := by
  simp [gz_f, sz_f, va_up, vf_upd, h]
/-- the cells outside of a ≤ k < b are as they were -/
def eqO (a b : Nat) (σ σ' : Dz) : Prop := ∀ k, (k < a ∨ b ≤ k) → ∀ j, gz_i σ' k j = gz_i σ k j ∧ gz_f σ' k j = gz_f σ k j ∧ gz_d σ' k j = gz_d σ k j ∧ gz_l σ' k j = gz_l σ k j
theorem eo_r (a b : Nat) (σ : Dz) : eqO a b σ σ := fun _ _ _ => ⟨rfl, rfl, rfl, rfl⟩
theorem eqO.i {a b : Nat} {σ σ' : Dz} (h : eqO a b σ σ') {k : Nat} (hk : k < a ∨ b ≤ k) (j : Nat) : gz_i σ' k j = gz_i σ k j := (h k hk j).1
theorem eqO.f {a b : Nat} {σ σ' : Dz} (h : eqO a b σ σ') {k : Nat} (hk : k < a ∨ b ≤ k) (j : Nat) : gz_f σ' k j = gz_f σ k j := (h k hk j).2.1
theorem eqO.d {a b : Nat} {σ σ' : Dz} (h : eqO a b σ σ') {k : Nat} (hk : k < a ∨ b ≤ k) (j : Nat) : gz_d σ' k j = gz_d σ k j := (h k hk j).2.2.1
theorem eqO.l {a b : Nat} {σ σ' : Dz} (h : eqO a b σ σ') {k : Nat} (hk : k < a ∨ b ≤ k) (j : Nat) : gz_l σ' k j = gz_l σ k j := (h k hk j).2.2.2
theorem eqO.tr {a b : Nat} {σ σ' σ'' : Dz} (h : eqO a b σ σ') (h2 : eqO a b σ' σ'') : eqO a b σ σ'' := fun k hk j => ⟨(h2.i hk j).trans (h.i hk j), (h2.f hk j).trans (h.f hk j), (h2.d hk j).trans (h.d hk j), (h2.l hk j).trans (h.l hk j)⟩
theorem eqO.mono {a b c d : Nat} {σ σ' : Dz} (h : eqO a b σ σ') (h1 : c ≤ a) (h2 : b ≤ d) : eqO c d σ σ' := fun k hk => h k (by omega)
theorem eqO.si {a b : Nat} {σ σ' : Dz} (h : eqO a b σ σ') {k : Nat} (h1 : a ≤ k) (h2 : k < b) (j : Nat) (v : Int32) : eqO a b σ (sz_i σ' k j v) :=
  h.tr fun k' hk j' => ⟨gi_cell (by omega), rfl, rfl, rfl⟩
theorem eqO.sf {a b : Nat} {σ σ' : Dz} (h : eqO a b σ σ') {k : Nat} (h1 : a ≤ k) (h2 : k < b) (j : Nat) (v : UInt32) : eqO a b σ (sz_f σ' k j v) :=
  h.tr fun k' hk j' => ⟨rfl, gf_cell (by omega), rfl, rfl⟩
theorem eqO.sd {a b : Nat} {σ σ' : Dz} (h : eqO a b σ σ') {k : Nat} (h1 : a ≤ k) (h2 : k < b) (j : Nat) (v : UInt64) : eqO a b σ (sz_d σ' k j v) :=
  h.tr fun k' hk j' => ⟨rfl, rfl, gd_cell (by omega), rfl⟩
theorem eqO.sl {a b : Nat} {σ σ' : Dz} (h : eqO a b σ σ') {k : Nat} (h1 : a ≤ k) (h2 : k < b) (j : Nat) (v : Int64) : eqO a b σ (sz_l σ' k j v) :=
  h.tr fun k' hk j' => ⟨rfl, rfl, rfl, by simp [gz_l, sz_l, va_up, show k' ≠ k by omega]⟩
/-- of cell 43 the fields that nothing is remembered in may change, of the others only a ≤ k < b -/
def scr (j : Nat) : Prop := j = 0 ∨ j = 18 ∨ j = 22 ∨ j = 23 ∨ j = 24 ∨ j = 25
def eqS (a b : Nat) (σ σ' : Dz) : Prop := (∀ k, (k < a ∨ b ≤ k) → k ≠ 43 → ∀ j, gz_i σ' k j = gz_i σ k j ∧ gz_f σ' k j = gz_f σ k j ∧ gz_d σ' k j = gz_d σ k j ∧ gz_l σ' k j = gz_l σ k j) ∧ ∀ j, (j ≠ 0 ∧ j ≠ 18 ∧ j ≠ 22 ∧ j ≠ 23 ∧ j ≠ 24 ∧ j ≠ 25) → gz_i σ' 43 j = gz_i σ 43 j
theorem es_r (a b : Nat) (σ : Dz) : eqS a b σ σ := ⟨fun _ _ _ _ => ⟨rfl, rfl, rfl, rfl⟩, fun _ _ => rfl⟩
theorem eqS.i {a b : Nat} {σ σ' : Dz} (h : eqS a b σ σ') {k : Nat} (hk : (k < a ∨ b ≤ k) ∧ k ≠ 43) (j : Nat) : gz_i σ' k j = gz_i σ k j := (h.1 k hk.1 hk.2 j).1
theorem eqS.f {a b : Nat} {σ σ' : Dz} (h : eqS a b σ σ') {k : Nat} (hk : (k < a ∨ b ≤ k) ∧ k ≠ 43) (j : Nat) : gz_f σ' k j = gz_f σ k j := (h.1 k hk.1 hk.2 j).2.1
theorem eqS.d {a b : Nat} {σ σ' : Dz} (h : eqS a b σ σ') {k : Nat} (hk : (k < a ∨ b ≤ k) ∧ k ≠ 43) (j : Nat) : gz_d σ' k j = gz_d σ k j := (h.1 k hk.1 hk.2 j).2.2.1
theorem eqS.l {a b : Nat} {σ σ' : Dz} (h : eqS a b σ σ') {k : Nat} (hk : (k < a ∨ b ≤ k) ∧ k ≠ 43) (j : Nat) : gz_l σ' k j = gz_l σ k j := (h.1 k hk.1 hk.2 j).2.2.2
theorem eqS.m {a b : Nat} {σ σ' : Dz} (h : eqS a b σ σ') {j : Nat} (hj : j ≠ 0 ∧ j ≠ 18 ∧ j ≠ 22 ∧ j ≠ 23 ∧ j ≠ 24 ∧ j ≠ 25) : gz_i σ' 43 j = gz_i σ 43 j := h.2 j hj
theorem eqS.tr {a b : Nat} {σ σ' σ'' : Dz} (h : eqS a b σ σ') (h2 : eqS a b σ' σ'') : eqS a b σ σ'' := ⟨fun k hk h3 j => ⟨(h2.i ⟨hk, h3⟩ j).trans (h.i ⟨hk, h3⟩ j), (h2.f ⟨hk, h3⟩ j).trans (h.f ⟨hk, h3⟩ j), (h2.d ⟨hk, h3⟩ j).trans (h.d ⟨hk, h3⟩ j), (h2.l ⟨hk, h3⟩ j).trans (h.l ⟨hk, h3⟩ j)⟩, fun j hj => (h2.m hj).trans (h.m hj)⟩
theorem eqS.mono {a b c d : Nat} {σ σ' : Dz} (h : eqS a b σ σ') (h1 : c ≤ a) (h2 : b ≤ d) : eqS c d σ σ' := ⟨fun k hk => h.1 k (by omega), h.2⟩
theorem eqS.si {a b : Nat} {σ σ' : Dz} (h : eqS a b σ σ') {k : Nat} (h1 : a ≤ k) (h2 : k < b) (h3 : k ≠ 43) (j : Nat) (v : Int32) : eqS a b σ (sz_i σ' k j v) :=
  h.tr ⟨fun k' hk _ j' => ⟨gi_cell (by omega), rfl, rfl, rfl⟩, fun j' _ => gi_cell (by omega)⟩
theorem eqS.s43 {a b : Nat} {σ σ' : Dz} (h : eqS a b σ σ') {j : Nat} (hj : scr j) (v : Int32) : eqS a b σ (sz_i σ' 43 j v) :=
  h.tr ⟨fun k' hk h3 j' => ⟨gi_cell (by omega), rfl, rfl, rfl⟩, fun j' h4 => gi_pl (by unfold scr at hj; omega)⟩
/-! the situations -/
abbrev Sit : Type := (Nat → Bool) × (Nat → Nat) × (Nat → Nat) × (Nat → Nat → Nat) × Nat
/-- defined moves, effects of letters, lengths and letters of words, places -/
def Sit.df (S : Sit) : Nat → Bool := S.1
def Sit.ef (S : Sit) : Nat → Nat := S.2.1
def Sit.wl (S : Sit) : Nat → Nat := S.2.2.1
def Sit.wd (S : Sit) : Nat → Nat → Nat := S.2.2.2.1
def Sit.pl (S : Sit) : Nat := S.2.2.2.2
def okSit (n : Nat) (S : Sit) : Prop := (∀ l, l < 10 → isPk n (S.ef l)) ∧ (∀ l, l < 10 → S.df (l / 2) = false → S.ef l = 1754760) ∧ (∀ m, m < 5 → S.ef (2 * m + 1) = ivN (S.ef (2 * m))) ∧ (∀ s, s < 4 → S.wl s ≤ 200) ∧ (∀ s, s < 4 → ∀ i, i < S.wl s → S.wd s i < 10 ∧ S.df (S.wd s i / 2) = true) ∧ (isPk n S.pl)
theorem okSit.pk {n : Nat} {S : Sit} (h : okSit n S) : ∀ l, l < 10 → isPk n (S.ef l) := h.1
theorem okSit.un {n : Nat} {S : Sit} (h : okSit n S) : ∀ l, l < 10 → S.df (l / 2) = false → S.ef l = 1754760 := h.2.1
theorem okSit.iv {n : Nat} {S : Sit} (h : okSit n S) : ∀ m, m < 5 → S.ef (2 * m + 1) = ivN (S.ef (2 * m)) := h.2.2.1
theorem okSit.le {n : Nat} {S : Sit} (h : okSit n S) : ∀ s, s < 4 → S.wl s ≤ 200 := h.2.2.2.1
theorem okSit.ok {n : Nat} {S : Sit} (h : okSit n S) : ∀ s, s < 4 → ∀ i, i < S.wl s → S.wd s i < 10 ∧ S.df (S.wd s i / 2) = true := h.2.2.2.2.1
theorem okSit.at_ {n : Nat} {S : Sit} (h : okSit n S) : isPk n S.pl := h.2.2.2.2.2
def CSit (k : Nat) (S : Sit) (σ : Dz) : Prop := (∃ M, M < 32 ∧ gz_i σ k 2 = nI M ∧ ∀ m, m < 5 → M.testBit m = S.df m) ∧ (gz_i σ k 3 = nI S.pl) ∧ (∀ l, l < 10 → gz_i σ (k + 1) l = nI (S.ef l)) ∧ (∀ s, s < 4 → gz_i σ (k + 3 + 2 * s) 1 = nI (S.wl s)) ∧ (∀ s, s < 4 → ∀ i, i < S.wl s → gz_i σ (k + 3 + 2 * s + 1) i = nI (S.wd s i))
theorem CSit.df {k : Nat} {S : Sit} {σ : Dz} (h : CSit k S σ) : ∃ M, M < 32 ∧ gz_i σ k 2 = nI M ∧ ∀ m, m < 5 → M.testBit m = S.df m := h.1
theorem CSit.pl {k : Nat} {S : Sit} {σ : Dz} (h : CSit k S σ) : gz_i σ k 3 = nI S.pl := h.2.1
theorem CSit.ef {k : Nat} {S : Sit} {σ : Dz} (h : CSit k S σ) : ∀ l, l < 10 → gz_i σ (k + 1) l = nI (S.ef l) := h.2.2.1
theorem CSit.wl {k : Nat} {S : Sit} {σ : Dz} (h : CSit k S σ) : ∀ s, s < 4 → gz_i σ (k + 3 + 2 * s) 1 = nI (S.wl s) := h.2.2.2.1
theorem CSit.wd {k : Nat} {S : Sit} {σ : Dz} (h : CSit k S σ) : ∀ s, s < 4 → ∀ i, i < S.wl s → gz_i σ (k + 3 + 2 * s + 1) i = nI (S.wd s i) := h.2.2.2.2
def MSit (t : Nat) (n : Nat) (S : Sit) (σ : Dz) : Prop := (∀ p, p < n → gz_i σ t (p + 1) = nI (imgN (ivN S.pl) p + 1)) ∧ (∀ m, m < 5 → gz_i σ (t + 1) m = if S.df m then 1 else 0) ∧ (∀ l, l < 10 → S.df (l / 2) = true → ∀ p, p < n → gz_i σ (t + 2) (8 * l + (p + 1)) = nI (imgN (S.ef l) p + 1)) ∧ (∀ s, s < 4 → gz_i σ (t + 3) s = nI (S.wl s)) ∧ (∀ s, s < 4 → ∀ i, i < S.wl s → gz_i σ (t + 4) (200 * s + i) = nI (S.wd s i))
theorem MSit.to {t : Nat} {n : Nat} {S : Sit} {σ : Dz} (h : MSit t n S σ) : ∀ p, p < n → gz_i σ t (p + 1) = nI (imgN (ivN S.pl) p + 1) := h.1
theorem MSit.df {t : Nat} {n : Nat} {S : Sit} {σ : Dz} (h : MSit t n S σ) : ∀ m, m < 5 → gz_i σ (t + 1) m = if S.df m then 1 else 0 := h.2.1
theorem MSit.ef {t : Nat} {n : Nat} {S : Sit} {σ : Dz} (h : MSit t n S σ) : ∀ l, l < 10 → S.df (l / 2) = true → ∀ p, p < n → gz_i σ (t + 2) (8 * l + (p + 1)) = nI (imgN (S.ef l) p + 1) := h.2.2.1
theorem MSit.wl {t : Nat} {n : Nat} {S : Sit} {σ : Dz} (h : MSit t n S σ) : ∀ s, s < 4 → gz_i σ (t + 3) s = nI (S.wl s) := h.2.2.2.1
theorem MSit.wd {t : Nat} {n : Nat} {S : Sit} {σ : Dz} (h : MSit t n S σ) : ∀ s, s < 4 → ∀ i, i < S.wl s → gz_i σ (t + 4) (200 * s + i) = nI (S.wd s i) := h.2.2.2.2
theorem CSit.keep {k : Nat} {S : Sit} {σ σ' : Dz} (h : CSit k S σ) (e : ∀ c, k ≤ c → c < k + 11 → ∀ j, gz_i σ' c j = gz_i σ c j) : CSit k S σ' := by
  refine ⟨?_, ?_, fun l hl => ?_, fun s hs => ?_, fun s hs i hi => ?_⟩
  · obtain ⟨M, h1, h2, h3⟩ := h.df
    exact ⟨M, h1, by rw [e k (by omega) (by omega), h2], h3⟩
  · rw [e k (by omega) (by omega), h.pl]
  · rw [e _ (by omega) (by omega), h.ef l hl]
  · rw [e _ (by omega) (by omega), h.wl s hs]
  · rw [e _ (by omega) (by omega), h.wd s hs i hi]
theorem MSit.keep {t n : Nat} {S : Sit} {σ σ' : Dz} (h : MSit t n S σ) (e : ∀ c, t ≤ c → c < t + 5 → ∀ j, gz_i σ' c j = gz_i σ c j) : MSit t n S σ' := by
  refine ⟨fun p hp => ?_, fun m hm => ?_, fun l hl hd p hp => ?_, fun s hs => ?_, fun s hs i hi => ?_⟩
  · rw [e _ (by omega) (by omega), h.to p hp]
  · rw [e _ (by omega) (by omega), h.df m hm]
  · rw [e _ (by omega) (by omega), h.ef l hl hd p hp]
  · rw [e _ (by omega) (by omega), h.wl s hs]
  · rw [e _ (by omega) (by omega), h.wd s hs i hi]
end QFrame
