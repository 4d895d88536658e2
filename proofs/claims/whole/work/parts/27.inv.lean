/-! the table in the abstract, and the invariant -/
section QInv
/-- the queue: arrangements (where each token is) and their depths, in the order in which they are reached -/
def qAdd (ef : Nat → Nat) (x d : Nat) (Q : List (Nat × Nat)) (l : Nat) : List (Nat × Nat) := if Q.any (fun e => e.1 == cmp x (ef l)) then Q else Q ++ [(cmp x (ef l), d + 1)]
def lets (df : Nat → Bool) : List Nat := (List.range 10).filter (fun l => df (l / 2))
def qProc (df : Nat → Bool) (ef : Nat → Nat) (Q : List (Nat × Nat)) (k : Nat) : List (Nat × Nat) := match Q[k]? with
  | none => Q
  | some e => (lets df).foldl (qAdd ef e.1 e.2) Q
def bfs (df : Nat → Bool) (ef : Nat → Nat) : Nat → List (Nat × Nat)
  | 0 => [(1754760, 0)]
  | k + 1 => qProc df ef (bfs df ef k) k
def allQ (df : Nat → Bool) (ef : Nat → Nat) : List (Nat × Nat) := bfs df ef 5040
def lvI (F : List (Nat × Nat)) (x : Nat) : Int32 := match F.find? (fun e => e.1 == x) with
  | none => -1
  | some e => nI e.2
def cntD (F : List (Nat × Nat)) (d : Nat) : Nat := F.countP (fun e => e.2 == d)
def belD (F : List (Nat × Nat)) (d : Nat) : Nat := F.countP (fun e => decide (e.2 < d))
def topD (F : List (Nat × Nat)) : Nat := match F.getLast? with
  | none => 0
  | some e => e.2
def lessN (y p : Nat) : Nat → Nat
  | 0 => 0
  | k + 1 => lessN y p k + if imgN y (p + 1 + k) < imgN y p then 1 else 0
def numK (n y : Nat) : Nat → Nat
  | 0 => 0
  | p + 1 => numK n y p * (n - p) + lessN y p (n - p - 1)
/-- the model's number of a row of tokens -/
def numN (n y : Nat) : Nat := numK n y n
def CTab (n : Nat) (df : Nat → Bool) (ef : Nat → Nat) (σ : Dz) : Prop := (gz_i σ 12 5 = nI (allQ df ef).length) ∧ (gz_i σ 12 6 = nI (topD (allQ df ef))) ∧ (∀ d, d ≤ topD (allQ df ef) + 1 → gz_i σ 15 d = nI (belD (allQ df ef) d)) ∧ (∀ x, isPk n x → gz_i σ 13 (rnkN x 7) = lvI (allQ df ef) x)
theorem CTab.sz {n : Nat} {df : Nat → Bool} {ef : Nat → Nat} {σ : Dz} (h : CTab n df ef σ) : gz_i σ 12 5 = nI (allQ df ef).length := h.1
theorem CTab.ll {n : Nat} {df : Nat → Bool} {ef : Nat → Nat} {σ : Dz} (h : CTab n df ef σ) : gz_i σ 12 6 = nI (topD (allQ df ef)) := h.2.1
theorem CTab.st {n : Nat} {df : Nat → Bool} {ef : Nat → Nat} {σ : Dz} (h : CTab n df ef σ) : ∀ d, d ≤ topD (allQ df ef) + 1 → gz_i σ 15 d = nI (belD (allQ df ef) d) := h.2.2.1
theorem CTab.lv {n : Nat} {df : Nat → Bool} {ef : Nat → Nat} {σ : Dz} (h : CTab n df ef σ) : ∀ x, isPk n x → gz_i σ 13 (rnkN x 7) = lvI (allQ df ef) x := h.2.2.2
def MTab (n : Nat) (df : Nat → Bool) (ef : Nat → Nat) (σ : Dz) : Prop := (gz_i σ 43 32 = nI (allQ df ef).length) ∧ (gz_i σ 43 33 = nI (topD (allQ df ef))) ∧ (∀ d, d < 5040 → gz_i σ 65 d = nI (cntD (allQ df ef) d)) ∧ (∀ x, isPk n x → gz_i σ 61 (numN n (ivN x)) = lvI (allQ df ef) x)
theorem MTab.sz {n : Nat} {df : Nat → Bool} {ef : Nat → Nat} {σ : Dz} (h : MTab n df ef σ) : gz_i σ 43 32 = nI (allQ df ef).length := h.1
theorem MTab.ll {n : Nat} {df : Nat → Bool} {ef : Nat → Nat} {σ : Dz} (h : MTab n df ef σ) : gz_i σ 43 33 = nI (topD (allQ df ef)) := h.2.1
theorem MTab.ct {n : Nat} {df : Nat → Bool} {ef : Nat → Nat} {σ : Dz} (h : MTab n df ef σ) : ∀ d, d < 5040 → gz_i σ 65 d = nI (cntD (allQ df ef) d) := h.2.2.1
theorem MTab.lv {n : Nat} {df : Nat → Bool} {ef : Nat → Nat} {σ : Dz} (h : MTab n df ef σ) : ∀ x, isPk n x → gz_i σ 61 (numN n (ivN x)) = lvI (allQ df ef) x := h.2.2.2
/-- n, present, text, error, snapshot, rows -/
abbrev Abs : Type := Nat × Sit × (Nat × (Nat → Nat)) × Int32 × Option Sit × (Nat → UInt32) × (Nat → UInt64)
def Abs.n (A : Abs) : Nat := A.1
def Abs.S (A : Abs) : Sit := A.2.1
def Abs.tl (A : Abs) : Nat := A.2.2.1.1
def Abs.tx (A : Abs) : Nat → Nat := A.2.2.1.2
def Abs.er (A : Abs) : Int32 := A.2.2.2.1
def Abs.sv (A : Abs) : Option Sit := A.2.2.2.2.1
def Abs.fl (A : Abs) : Nat → UInt32 := A.2.2.2.2.2.1
def Abs.db (A : Abs) : Nat → UInt64 := A.2.2.2.2.2.2
def fpOK (f : FP.Core.Fmt) (x : Nat) : Prop := ∃ s c q, FP.Core.decode f x = .fin s c q ∧ c * 2 ^ q.toNat ≤ 1000000 * 2 ^ (-q).toNat
def okA (A : Abs) : Prop := (2 ≤ A.n) ∧ (A.n ≤ 7) ∧ (okSit A.n A.S) ∧ (A.tl ≤ 40) ∧ (∀ i, i < A.tl → 32 ≤ A.tx i ∧ A.tx i ≤ 126) ∧ (A.er = -1 ∨ ∃ e, e ≤ 40 ∧ A.er = nI e) ∧ (∀ s, A.sv = some s → okSit A.n s) ∧ (∀ j, j < 24 → fpOK FP.Core.b32 (A.fl j).toNat) ∧ (∀ j, j < 24 → fpOK FP.Core.b64 (A.db j).toNat)
theorem okA.n1 {A : Abs} (h : okA A) : 2 ≤ A.n := h.1
theorem okA.n2 {A : Abs} (h : okA A) : A.n ≤ 7 := h.2.1
theorem okA.S {A : Abs} (h : okA A) : okSit A.n A.S := h.2.2.1
theorem okA.tl {A : Abs} (h : okA A) : A.tl ≤ 40 := h.2.2.2.1
theorem okA.tx {A : Abs} (h : okA A) : ∀ i, i < A.tl → 32 ≤ A.tx i ∧ A.tx i ≤ 126 := h.2.2.2.2.1
theorem okA.er {A : Abs} (h : okA A) : A.er = -1 ∨ ∃ e, e ≤ 40 ∧ A.er = nI e := h.2.2.2.2.2.1
theorem okA.sv {A : Abs} (h : okA A) : ∀ s, A.sv = some s → okSit A.n s := h.2.2.2.2.2.2.1
theorem okA.fl {A : Abs} (h : okA A) : ∀ j, j < 24 → fpOK FP.Core.b32 (A.fl j).toNat := h.2.2.2.2.2.2.2.1
theorem okA.db {A : Abs} (h : okA A) : ∀ j, j < 24 → fpOK FP.Core.b64 (A.db j).toNat := h.2.2.2.2.2.2.2.2
def CI (A : Abs) (σ : Dz) : Prop := (gz_i σ 0 11 = nI A.n) ∧ (gz_i σ 0 12 = A.er) ∧ (gz_i σ 0 13 = if A.sv.isSome then 1 else 0) ∧ (CSit 17 A.S σ) ∧ (∀ s, A.sv = some s → CSit 28 s σ) ∧ (gz_i σ 1 1 = nI A.tl) ∧ (∀ i, i < A.tl → gz_i σ 2 i = nI (A.tx i)) ∧ (∀ j, j < 24 → gz_f σ 41 j = A.fl j) ∧ (∀ j, j < 24 → gz_d σ 42 j = A.db j) ∧ ((gz_i σ 0 14 = 0 ∧ gz_i σ 15 0 = 0) ∨ (gz_i σ 0 14 = 1 ∧ CTab A.n A.S.df A.S.ef σ))
theorem CI.n {A : Abs} {σ : Dz} (h : CI A σ) : gz_i σ 0 11 = nI A.n := h.1
theorem CI.er {A : Abs} {σ : Dz} (h : CI A σ) : gz_i σ 0 12 = A.er := h.2.1
theorem CI.hs {A : Abs} {σ : Dz} (h : CI A σ) : gz_i σ 0 13 = if A.sv.isSome then 1 else 0 := h.2.2.1
theorem CI.S {A : Abs} {σ : Dz} (h : CI A σ) : CSit 17 A.S σ := h.2.2.2.1
theorem CI.sv {A : Abs} {σ : Dz} (h : CI A σ) : ∀ s, A.sv = some s → CSit 28 s σ := h.2.2.2.2.1
theorem CI.tl {A : Abs} {σ : Dz} (h : CI A σ) : gz_i σ 1 1 = nI A.tl := h.2.2.2.2.2.1
theorem CI.tx {A : Abs} {σ : Dz} (h : CI A σ) : ∀ i, i < A.tl → gz_i σ 2 i = nI (A.tx i) := h.2.2.2.2.2.2.1
theorem CI.fl {A : Abs} {σ : Dz} (h : CI A σ) : ∀ j, j < 24 → gz_f σ 41 j = A.fl j := h.2.2.2.2.2.2.2.1
theorem CI.db {A : Abs} {σ : Dz} (h : CI A σ) : ∀ j, j < 24 → gz_d σ 42 j = A.db j := h.2.2.2.2.2.2.2.2.1
theorem CI.tb {A : Abs} {σ : Dz} (h : CI A σ) : (gz_i σ 0 14 = 0 ∧ gz_i σ 15 0 = 0) ∨ (gz_i σ 0 14 = 1 ∧ CTab A.n A.S.df A.S.ef σ) := h.2.2.2.2.2.2.2.2.2
def MI (A : Abs) (σ : Dz) : Prop := (gz_i σ 43 1 = nI A.n) ∧ (gz_i σ 43 9 = A.er) ∧ (gz_i σ 43 12 = if A.sv.isSome then 1 else 0) ∧ (MSit 44 A.n A.S σ) ∧ (∀ s, A.sv = some s → MSit 52 A.n s σ) ∧ (gz_i σ 43 8 = nI A.tl) ∧ (∀ i, i < A.tl → gz_i σ 49 i = nI (A.tx i)) ∧ (∀ j, j < 24 → gz_f σ 50 j = A.fl j) ∧ (∀ j, j < 24 → gz_d σ 51 j = A.db j) ∧ (gz_i σ 43 27 = 0 ∨ (gz_i σ 43 27 = 1 ∧ MTab A.n A.S.df A.S.ef σ))
theorem MI.n {A : Abs} {σ : Dz} (h : MI A σ) : gz_i σ 43 1 = nI A.n := h.1
theorem MI.er {A : Abs} {σ : Dz} (h : MI A σ) : gz_i σ 43 9 = A.er := h.2.1
theorem MI.hs {A : Abs} {σ : Dz} (h : MI A σ) : gz_i σ 43 12 = if A.sv.isSome then 1 else 0 := h.2.2.1
theorem MI.S {A : Abs} {σ : Dz} (h : MI A σ) : MSit 44 A.n A.S σ := h.2.2.2.1
theorem MI.sv {A : Abs} {σ : Dz} (h : MI A σ) : ∀ s, A.sv = some s → MSit 52 A.n s σ := h.2.2.2.2.1
theorem MI.tl {A : Abs} {σ : Dz} (h : MI A σ) : gz_i σ 43 8 = nI A.tl := h.2.2.2.2.2.1
theorem MI.tx {A : Abs} {σ : Dz} (h : MI A σ) : ∀ i, i < A.tl → gz_i σ 49 i = nI (A.tx i) := h.2.2.2.2.2.2.1
theorem MI.fl {A : Abs} {σ : Dz} (h : MI A σ) : ∀ j, j < 24 → gz_f σ 50 j = A.fl j := h.2.2.2.2.2.2.2.1
theorem MI.db {A : Abs} {σ : Dz} (h : MI A σ) : ∀ j, j < 24 → gz_d σ 51 j = A.db j := h.2.2.2.2.2.2.2.2.1
theorem MI.tb {A : Abs} {σ : Dz} (h : MI A σ) : gz_i σ 43 27 = 0 ∨ (gz_i σ 43 27 = 1 ∧ MTab A.n A.S.df A.S.ef σ) := h.2.2.2.2.2.2.2.2.2
def Inv (σ : Dz) : Prop := ∃ A, okA A ∧ CI A σ ∧ MI A σ
theorem CTab.keep {n : Nat} {df : Nat → Bool} {ef : Nat → Nat} {σ σ' : Dz} (h : CTab n df ef σ) (e : ∀ c, 12 ≤ c → c < 17 → ∀ j, gz_i σ' c j = gz_i σ c j) : CTab n df ef σ' :=
  ⟨by rw [e _ (by omega) (by omega)]; exact h.sz, by rw [e _ (by omega) (by omega)]; exact h.ll, fun d hd => by rw [e _ (by omega) (by omega)]; exact h.st d hd, fun x hx => by rw [e _ (by omega) (by omega)]; exact h.lv x hx⟩
theorem MTab.keep {n : Nat} {df : Nat → Bool} {ef : Nat → Nat} {σ σ' : Dz} (h : MTab n df ef σ) (e1 : gz_i σ' 43 32 = gz_i σ 43 32) (e2 : gz_i σ' 43 33 = gz_i σ 43 33) (e : ∀ j, gz_i σ' 61 j = gz_i σ 61 j) (e3 : ∀ j, gz_i σ' 65 j = gz_i σ 65 j) : MTab n df ef σ' :=
  ⟨by rw [e1]; exact h.sz, by rw [e2]; exact h.ll, fun d hd => by rw [e3]; exact h.ct d hd, fun x hx => by rw [e]; exact h.lv x hx⟩
theorem CI.keep {A : Abs} {σ σ' : Dz} (h : CI A σ) (e : ∀ k, (k < 3 ∨ (12 ≤ k ∧ k < 39) ∨ k = 41 ∨ k = 42) → ∀ j, gz_i σ' k j = gz_i σ k j ∧ gz_f σ' k j = gz_f σ k j ∧ gz_d σ' k j = gz_d σ k j) : CI A σ' := by
  have ei : ∀ k, (k < 3 ∨ (12 ≤ k ∧ k < 39) ∨ k = 41 ∨ k = 42) → ∀ j, gz_i σ' k j = gz_i σ k j := fun k hk j => (e k hk j).1
  refine ⟨by rw [ei _ (by omega)]; exact h.n, by rw [ei _ (by omega)]; exact h.er, by rw [ei _ (by omega)]; exact h.hs, h.S.keep fun c _ _ j => ei c (by omega) j, fun s hs => (h.sv s hs).keep fun c _ _ j => ei c (by omega) j, by rw [ei _ (by omega)]; exact h.tl, fun i hi => by rw [ei _ (by omega)]; exact h.tx i hi, fun j hj => by rw [(e 41 (by omega) j).2.1]; exact h.fl j hj, fun j hj => by rw [(e 42 (by omega) j).2.2]; exact h.db j hj, ?_⟩
  rw [ei _ (by omega)]
  exact h.tb.imp (fun t => ⟨t.1, by rw [ei _ (by omega)]; exact t.2⟩) fun t => ⟨t.1, t.2.keep fun c _ _ j => ei c (by omega) j⟩
theorem CI.z0 {A : Abs} {σ : Dz} (h : CI A σ) : gz_i σ 15 0 = 0 := by
  rcases h.tb with t | t
  · exact t.2
  · rw [t.2.st 0 (Nat.zero_le _), belD, List.countP_eq_zero.mpr (fun e _ => by simp)]; rfl
theorem MI.keep {A : Abs} {σ σ' : Dz} (h : MI A σ) (e : ∀ k, 43 < k → (k < 57 ∨ k = 61 ∨ k = 65) → ∀ j, gz_i σ' k j = gz_i σ k j ∧ gz_f σ' k j = gz_f σ k j ∧ gz_d σ' k j = gz_d σ k j) (em : ∀ j, (j ≠ 0 ∧ j ≠ 18 ∧ j ≠ 22 ∧ j ≠ 23 ∧ j ≠ 24 ∧ j ≠ 25) → gz_i σ' 43 j = gz_i σ 43 j) : MI A σ' := by
  have ei : ∀ k, 43 < k → (k < 57 ∨ k = 61 ∨ k = 65) → ∀ j, gz_i σ' k j = gz_i σ k j := fun k hk h2 j => (e k hk h2 j).1
  refine ⟨by rw [em _ (by omega)]; exact h.n, by rw [em _ (by omega)]; exact h.er, by rw [em _ (by omega)]; exact h.hs, h.S.keep fun c _ _ j => ei c (by omega) (by omega) j, fun s hs => (h.sv s hs).keep fun c _ _ j => ei c (by omega) (by omega) j, by rw [em _ (by omega)]; exact h.tl, fun i hi => by rw [ei _ (by omega) (by omega)]; exact h.tx i hi, fun j hj => by rw [(e 50 (by omega) (by omega) j).2.1]; exact h.fl j hj, fun j hj => by rw [(e 51 (by omega) (by omega) j).2.2]; exact h.db j hj, ?_⟩
  rw [em _ (by omega)]
  exact h.tb.imp id fun t => ⟨t.1, t.2.keep (em _ (by omega)) (em _ (by omega)) (fun j => ei _ (by omega) (by omega) j) (fun j => ei _ (by omega) (by omega) j)⟩
/-- the class has worked: the model stands -/
theorem MI.byC {A : Abs} {σ σ' : Dz} (h : MI A σ) (e : eqO 0 43 σ σ') : MI A σ' := h.keep (fun k h1 h2 j => ⟨e.i (by omega) j, e.f (by omega) j, e.d (by omega) j⟩) (fun j _ => e.i (by omega) j)
theorem MI.sl {A : Abs} {σ : Dz} (h : MI A σ) (j : Nat) (v : Int64) : MI A (sz_l σ 66 j v) := h.keep (fun _ _ _ _ => ⟨rfl, rfl, rfl⟩) (fun _ _ => rfl)
theorem CI.sl {A : Abs} {σ : Dz} (h : CI A σ) (j : Nat) (v : Int64) : CI A (sz_l σ 66 j v) := h.keep (fun _ _ _ => ⟨rfl, rfl, rfl⟩)
theorem MI.thr {A : Abs} {σ : Dz} (h : MI A σ) (v : Int32) : MI A (sz_i σ 43 0 v) := h.keep (fun k h1 h2 j => ⟨gi_cell (by omega), rfl, rfl⟩) (fun j _ => gi_pl (by omega))
/-- the model has worked: the class stands -/
theorem CI.byM {A : Abs} {σ σ' : Dz} (h : CI A σ) (e : eqO 43 66 σ σ') : CI A σ' := h.keep (fun k h1 j => ⟨e.i (by omega) j, e.f (by omega) j, e.d (by omega) j⟩)
theorem eqS.o {a b : Nat} {σ σ' : Dz} (h : eqS a b σ σ') (h1 : 43 ≤ a) (h2 : b ≤ 66) (hl : ∀ k j, k = 43 → gz_f σ' k j = gz_f σ k j ∧ gz_d σ' k j = gz_d σ k j ∧ gz_l σ' k j = gz_l σ k j) : eqO 43 66 σ σ' := fun k hk j => h.1 k (by omega) (by omega) j
theorem eqS.eo {a b : Nat} {σ σ' : Dz} (h : eqS a b σ σ') (h1 : 43 ≤ a) (h2 : b ≤ 66) : eqO 43 66 σ σ' := fun k hk j => h.1 k (by omega) (by omega) j
/-- the law's last look -/
theorem tl_i {τ : Dz} {k b : Int32} {rc : Prop} (h1 : gz_i τ 43 0 = k) (h2 : k = 0 → gz_l τ 66 0 = b.toInt64) (h : rc) : P_X10_thrown τ (fun (r214 : Int32) => ((r214 = k → ((¬ k = 0 → rc) ∧ (k = 0 → (((lg_cmp (gz_l τ 66 ((0 : Int32)).toNatClampNeg) ((b).toInt64)) = 0 → rc) ∧ (¬ (lg_cmp (gz_l τ 66 ((0 : Int32)).toNatClampNeg) ((b).toInt64)) = 0 → False))))) ∧ (¬ r214 = k → False))) := by
  unfold P_X10_thrown
  refine ⟨fun _ => ⟨fun _ => h, fun hk => ⟨fun _ => h, fun hn => hn ?_⟩⟩, fun hn => hn h1⟩
  rw [show ((0 : Int32)).toNatClampNeg = 0 from rfl, h2 hk]
  unfold lg_cmp
  rw [if_neg (by rw [gt_iff_lt, fa_lt64]; omega), if_pos rfl]
theorem sl_cases (x : Int32) : x < 0 ∨ ∃ a, a < 2 ^ 31 ∧ x = nI a := by
  by_cases h : x < 0
  · exact Or.inl h
  · refine Or.inr ⟨x.toInt.toNat, ?_, ?_⟩
    · have := (fb_rng x).2
      omega
    · have h2 : ¬ x.toInt < 0 := fun z => h (by rw [fa_lt]; exact z)
      rw [fa_eq, nI_toInt (by have := (fb_rng x).2; omega)]; omega
theorem slots (x : Int32) : (∃ s, s < 4 ∧ x = nI s) ∨ (∀ post px, px "java/lang/IndexOutOfBoundsException" → P_X9_checkSlot x post px) ∧ (∀ post, post 0 → P_X10_isSlot x post) := by
  have neg : x < 0 → (∀ post px, px "java/lang/IndexOutOfBoundsException" → P_X9_checkSlot x post px) ∧ (∀ post, post 0 → P_X10_isSlot x post) := fun h => ⟨fun post px hp => br_t h hp, fun post hp => br_t h ⟨Or.inl rfl, hp⟩⟩
  rcases sl_cases x with h | ⟨a, ha, rfl⟩
  · exact Or.inr (neg h)
  · by_cases h4 : a < 4
    · exact Or.inl ⟨a, h4, rfl⟩
    · exact Or.inr ⟨fun post px hp => br_f (qn_lt ha) (br_f (by simp (disch := omega) only [fa_lit, nI_add, pk_mul, nI_ltI, nI_leI, nI_eq] <;> omega) hp), fun post hp => br_f (qn_lt ha) (br_t (by simp (disch := omega) only [fa_lit, nI_add, pk_mul, nI_ltI, nI_leI, nI_eq] <;> omega) ⟨Or.inl rfl, hp⟩)⟩
theorem slot_c {s : Nat} (hs : s < 4) {post : Prop} {px : String → Prop} (h : post) : P_X9_checkSlot (nI s) post px := br_f (qn_lt (by omega)) (br_t (by simp (disch := omega) only [fa_lit, nI_add, pk_mul, nI_ltI, nI_leI, nI_eq] <;> omega) h)
theorem slot_m {s : Nat} (hs : s < 4) {post : Int32 → Prop} (h : post 1) : P_X10_isSlot (nI s) post := br_f (qn_lt (by omega)) (br_f (by simp (disch := omega) only [fa_lit, nI_add, pk_mul, nI_ltI, nI_leI, nI_eq] <;> omega) ⟨Or.inr rfl, h⟩)
theorem places_ (x : Int32) {A : Abs} (o : okA A) : (∃ p, p < A.n ∧ x = nI (p + 1)) ∨ ∀ σ, (CI A σ → ∀ post px, px "java/lang/IndexOutOfBoundsException" → P_X9_checkPosition σ x post px) ∧ (MI A σ → ∀ post, post 0 → P_X10_isPosition σ x post) := by
  have h7 := o.n2
  have lo : x < 1 → ∀ σ, (CI A σ → ∀ post px, px "java/lang/IndexOutOfBoundsException" → P_X9_checkPosition σ x post px) ∧ (MI A σ → ∀ post, post 0 → P_X10_isPosition σ x post) := fun h σ => ⟨fun _ post px hp => br_t h hp, fun _ post hp => br_t h ⟨Or.inl rfl, hp⟩⟩
  rcases sl_cases x with h | ⟨a, ha, rfl⟩
  · refine Or.inr (lo ?_)
    rw [fa_lt] at h ⊢
    have : (1 : Int32).toInt = 1 := by decide
    have h0 : (0 : Int32).toInt = 0 := by decide
    omega
  · by_cases h0 : a = 0
    · subst h0; exact Or.inr (lo (by decide))
    · by_cases hn : a ≤ A.n
      · exact Or.inl ⟨a - 1, by omega, by congr 1; omega⟩
      · refine Or.inr fun σ => ⟨fun c post px hp => br_f (by simp (disch := omega) only [fa_lit, nI_add, pk_mul, nI_ltI, nI_leI, nI_eq] <;> omega) (br_f (by rw [c.n]; simp (disch := omega) only [fa_lit, nI_add, pk_mul, nI_ltI, nI_leI, nI_eq]; omega) hp), fun c post hp => br_f (by simp (disch := omega) only [fa_lit, nI_add, pk_mul, nI_ltI, nI_leI, nI_eq] <;> omega) (br_t (by rw [c.n]; simp (disch := omega) only [fa_lit, nI_add, pk_mul, nI_ltI, nI_leI, nI_eq]; omega) ⟨Or.inl rfl, hp⟩)⟩
theorem pos_c {A : Abs} (o : okA A) {σ : Dz} (c : CI A σ) {p : Nat} (hp : p < A.n) {post : Prop} {px : String → Prop} (h : post) : P_X9_checkPosition σ (nI (p + 1)) post px := by
  have h7 := o.n2
  exact br_f (by simp (disch := omega) only [fa_lit, nI_add, pk_mul, nI_ltI, nI_leI, nI_eq] <;> omega) (br_t (by rw [c.n]; simp (disch := omega) only [fa_lit, nI_add, pk_mul, nI_ltI, nI_leI, nI_eq]; omega) h)
theorem pos_m {A : Abs} (o : okA A) {σ : Dz} (c : MI A σ) {p : Nat} (hp : p < A.n) {post : Int32 → Prop} (h : post 1) : P_X10_isPosition σ (nI (p + 1)) post := by
  have h7 := o.n2
  exact br_f (by simp (disch := omega) only [fa_lit, nI_add, pk_mul, nI_ltI, nI_leI, nI_eq] <;> omega) (br_f (by rw [c.n]; simp (disch := omega) only [fa_lit, nI_add, pk_mul, nI_ltI, nI_leI, nI_eq]; omega) ⟨Or.inr rfl, h⟩)
theorem px_1 {E F : String} {P : Prop} (h : E = F) (p : P) : E = F ∧ P := ⟨h, p⟩
end QInv
