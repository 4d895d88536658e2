/-! THE WORLD: 68 cells of fixed kinds; their data is a Dz. Written by wip/whole/genworld.py -/
section ZWorld
def zW : List Cond := lw_tbl.filter goodWord
theorem zm_in {w : Cond} (h : w ∈ lw_tbl) (g : goodWord w = true) : w ∈ zW := List.mem_filter.mpr ⟨h, g⟩
theorem zmp {w : Cond} (i : Nat) (h : (k2_sels lw_privs)[i]? = some w) (g : goodWord w = true) : w ∈ zW := zm_in (List.mem_append_left _ (List.mem_of_getElem? h)) g
theorem zm1 {w : Cond} (i : Nat) (h : tables_1_1[i]? = some w) (g : goodWord w = true) : w ∈ zW := zm_in (List.mem_append_right _ (List.mem_append_left _ (List.mem_of_getElem? h))) g
theorem zm2 {w : Cond} (i : Nat) (h : tables_1_2[i]? = some w) (g : goodWord w = true) : w ∈ zW := zm_in (List.mem_append_right _ (List.mem_append_right _ (List.mem_append_left _ (List.mem_of_getElem? h)))) g
theorem zm3 {w : Cond} (i : Nat) (h : tables_1_3[i]? = some w) (g : goodWord w = true) : w ∈ zW := zm_in (List.mem_append_right _ (List.mem_append_right _ (List.mem_append_right _ (List.mem_append_left _ (List.mem_of_getElem? h))))) g
theorem zm4 {w : Cond} (i : Nat) (h : tables_1_4[i]? = some w) (g : goodWord w = true) : w ∈ zW := zm_in (List.mem_append_right _ (List.mem_append_right _ (List.mem_append_right _ (List.mem_append_right _ (List.mem_append_left _ (List.mem_of_getElem? h)))))) g
theorem zm5 {w : Cond} (i : Nat) (h : tables_1_5[i]? = some w) (g : goodWord w = true) : w ∈ zW := zm_in (List.mem_append_right _ (List.mem_append_right _ (List.mem_append_right _ (List.mem_append_right _ (List.mem_append_right _ (List.mem_append_left _ (List.mem_of_getElem? h))))))) g
theorem zm6 {w : Cond} (i : Nat) (h : tables_1_6[i]? = some w) (g : goodWord w = true) : w ∈ zW := zm_in (List.mem_append_right _ (List.mem_append_right _ (List.mem_append_right _ (List.mem_append_right _ (List.mem_append_right _ (List.mem_append_right _ (List.mem_of_getElem? h))))))) g
theorem zW_good {w : Cond} (h : w ∈ zW) : (w.onTables && w.keeps) = true ∨ ∃ ty, w = .arrayClass ty := good_of_word (List.mem_filter.mp h).2
abbrev zCl : List vw_C := [(RX0, TX0, 5), (RX1, TX1, 6), (RX2, TX2, 7), (RX4, TX4, 4), (RX5, TX5, 2), (RX6, TX6, 2), (RX7, TX7, 3), (RX8, TX8, 4), (RX9, TX9, 15), (RX10, TX10, 35)]
/-- ints (fields, elements of int, char and boolean rows), floats, doubles, longs: by the cell's number, then the place -/
abbrev Dz : Type := (Nat → Nat → Int32) × (Nat → Nat → UInt32) × (Nat → Nat → UInt64) × (Nat → Nat → Int64)
def gz_i (σ : Dz) (k j : Nat) : Int32 := σ.1 k j
def gz_f (σ : Dz) (k j : Nat) : UInt32 := σ.2.1 k j
def gz_d (σ : Dz) (k j : Nat) : UInt64 := σ.2.2.1 k j
def gz_l (σ : Dz) (k j : Nat) : Int64 := σ.2.2.2 k j
def sz_i (σ : Dz) (k j : Nat) (v : Int32) : Dz := (va_up σ.1 k (upd (σ.1 k) j v), σ.2)
def sz_f (σ : Dz) (k j : Nat) (v : UInt32) : Dz := (σ.1, va_up σ.2.1 k (vf_upd (σ.2.1 k) j v), σ.2.2)
def sz_d (σ : Dz) (k j : Nat) (v : UInt64) : Dz := (σ.1, σ.2.1, va_up σ.2.2.1 k (vf_upd (σ.2.2.1 k) j v), σ.2.2.2)
def sz_l (σ : Dz) (k j : Nat) (v : Int64) : Dz := (σ.1, σ.2.1, σ.2.2.1, va_up σ.2.2.2 k (vp_updL (σ.2.2.2 k) j v))
def cz (ad : Nat → Nat) (ty : Nat → ClassId) (f : Nat → Int32) (g : Nat → UInt32) (h : Nat → UInt64) (q : Nat → Int64) (k : Nat) : va_E := match k with
  | 0 => .inr (8, [.ref (ad 1), .ref (ad 3), .ref (ad 4), .ref (ad 6), .ref (ad 9), .ref (ad 12), .ref (ad 17), .ref (ad 28), .ref (ad 39), .ref (ad 41), .ref (ad 42), .int (f 11), .int (f 12), .int (f 13), .int (f 14)])
  | 1 => .inr (4, [.ref (ad 2), .int (f 1)])
  | 2 => .inl (ty 0, 40, .inl f)
  | 3 => .inr (1, [.int (f 0), .int (f 1), .int (f 2), .int (f 3), .int (f 4), .int (f 5)])
  | 4 => .inr (6, [.ref (ad 5), .int (f 1), .int (f 2)])
  | 5 => .inl (ty 0, 6, .inl f)
  | 6 => .inr (7, [.ref (ad 7), .ref (ad 8), .int (f 2), .int (f 3)])
  | 7 => .inl (ty 3, 6, .inl f)
  | 8 => .inl (ty 3, 6, .inl f)
  | 9 => .inr (0, [.ref (ad 10), .ref (ad 11), .int (f 2), .int (f 3), .int (f 4)])
  | 10 => .inl (ty 3, 10, .inl f)
  | 11 => .inl (ty 3, 110, .inl f)
  | 12 => .inr (2, [.ref (ad 13), .ref (ad 14), .ref (ad 15), .ref (ad 16), .int (f 4), .int (f 5), .int (f 6)])
  | 13 => .inl (ty 3, 5040, .inl f)
  | 14 => .inl (ty 3, 5040, .inl f)
  | 15 => .inl (ty 3, 5041, .inl f)
  | 16 => .inl (ty 3, 10, .inl f)
  | 17 => .inr (3, [.ref (ad 18), .ref (ad 19), .int (f 2), .int (f 3)])
  | 18 => .inl (ty 3, 10, .inl f)
  | 19 => .inl (ty 5, 4, .inr (.inr (.inr (.inr (fun i => some (ad (20 + 2 * i)))))))
  | 20 => .inr (5, [.ref (ad 21), .int (f 1)])
  | 21 => .inl (ty 3, 200, .inl f)
  | 22 => .inr (5, [.ref (ad 23), .int (f 1)])
  | 23 => .inl (ty 3, 200, .inl f)
  | 24 => .inr (5, [.ref (ad 25), .int (f 1)])
  | 25 => .inl (ty 3, 200, .inl f)
  | 26 => .inr (5, [.ref (ad 27), .int (f 1)])
  | 27 => .inl (ty 3, 200, .inl f)
  | 28 => .inr (3, [.ref (ad 29), .ref (ad 30), .int (f 2), .int (f 3)])
  | 29 => .inl (ty 3, 10, .inl f)
  | 30 => .inl (ty 5, 4, .inr (.inr (.inr (.inr (fun i => some (ad (31 + 2 * i)))))))
  | 31 => .inr (5, [.ref (ad 32), .int (f 1)])
  | 32 => .inl (ty 3, 200, .inl f)
  | 33 => .inr (5, [.ref (ad 34), .int (f 1)])
  | 34 => .inl (ty 3, 200, .inl f)
  | 35 => .inr (5, [.ref (ad 36), .int (f 1)])
  | 36 => .inl (ty 3, 200, .inl f)
  | 37 => .inr (5, [.ref (ad 38), .int (f 1)])
  | 38 => .inl (ty 3, 200, .inl f)
  | 39 => .inr (5, [.ref (ad 40), .int (f 1)])
  | 40 => .inl (ty 3, 200, .inl f)
  | 41 => .inl (ty 2, 24, .inr (.inr (.inl g)))
  | 42 => .inl (ty 1, 24, .inr (.inr (.inr (.inl h))))
  | 43 => .inr (9, [.int (f 0), .int (f 1), .ref (ad 44), .ref (ad 45), .ref (ad 46), .ref (ad 47), .ref (ad 48), .ref (ad 49), .int (f 8), .int (f 9), .ref (ad 50), .ref (ad 51), .int (f 12), .ref (ad 52), .ref (ad 53), .ref (ad 54), .ref (ad 55), .ref (ad 56), .int (f 18), .ref (ad 57), .ref (ad 58), .ref (ad 59), .int (f 22), .int (f 23), .int (f 24), .int (f 25), .ref (ad 60), .int (f 27), .ref (ad 61), .ref (ad 62), .ref (ad 63), .ref (ad 64), .int (f 32), .int (f 33), .ref (ad 65)])
  | 44 => .inl (ty 3, 8, .inl f)
  | 45 => .inl (ty 4, 5, .inl f)
  | 46 => .inl (ty 3, 80, .inl f)
  | 47 => .inl (ty 3, 4, .inl f)
  | 48 => .inl (ty 3, 800, .inl f)
  | 49 => .inl (ty 0, 40, .inl f)
  | 50 => .inl (ty 2, 24, .inr (.inr (.inl g)))
  | 51 => .inl (ty 1, 24, .inr (.inr (.inr (.inl h))))
  | 52 => .inl (ty 3, 8, .inl f)
  | 53 => .inl (ty 4, 5, .inl f)
  | 54 => .inl (ty 3, 80, .inl f)
  | 55 => .inl (ty 3, 4, .inl f)
  | 56 => .inl (ty 3, 800, .inl f)
  | 57 => .inl (ty 3, 8, .inl f)
  | 58 => .inl (ty 4, 8, .inl f)
  | 59 => .inl (ty 3, 300, .inl f)
  | 60 => .inl (ty 3, 8, .inl f)
  | 61 => .inl (ty 3, 5040, .inl f)
  | 62 => .inl (ty 3, 5040, .inl f)
  | 63 => .inl (ty 3, 8, .inl f)
  | 64 => .inl (ty 3, 8, .inl f)
  | 65 => .inl (ty 3, 5041, .inl f)
  | 66 => .inl (ty 6, 1, .inr (.inl q))
  | _ => .inl (ty 1, 1, .inr (.inr (.inr (.inl h))))
abbrev ez (ad : Nat → Nat) (ty : Nat → ClassId) (σ : Dz) (k : Nat) : va_E := cz ad ty (σ.1 k) (σ.2.1 k) (σ.2.2.1 k) (σ.2.2.2 k) k
def wz (ad : Nat → Nat) (ty : Nat → ClassId) (σ : Dz) : va_W := (List.range 68).map (fun k => (ad k, ez ad ty σ k))
def tz (ty : Nat → ClassId) : List (ClassId × FieldType) := [(ty 0, .char), (ty 1, .double), (ty 2, .float), (ty 3, .int), (ty 4, .boolean), (ty 5, .object "PermutationPuzzle$Word"), (ty 6, .long)]
def Az (ad : Nat → Nat) (n : Nat) : Nat → Prop := fun q => (∃ k, k < 68 ∧ q = ad k) ∨ n ≤ q
def isW (w : Nat) : Prop := w = 20 ∨ w = 22 ∨ w = 24 ∨ w = 26 ∨ w = 31 ∨ w = 33 ∨ w = 35 ∨ w = 37 ∨ w = 39
def isS (k : Nat) : Prop := k = 17 ∨ k = 28
theorem wz_get {ad : Nat → Nat} {ty : Nat → ClassId} {σ : Dz} {k : Nat} (hk : k < 68) : (wz ad ty σ)[k]? = some (ad k, ez ad ty σ k) := by
  simp [wz, List.getElem?_map, List.getElem?_range hk]
theorem wz_len {ad : Nat → Nat} {ty : Nat → ClassId} {σ : Dz} : (wz ad ty σ).length = 68 := by simp [wz]
theorem wz_get' {ad : Nat → Nat} {ty : Nat → ClassId} {σ : Dz} {k : Nat} {q : Nat × va_E} (h : (wz ad ty σ)[k]? = some q) : k < 68 ∧ q = (ad k, ez ad ty σ k) := by
  have hk : k < 68 := by
    rcases Nat.lt_or_ge k 68 with z | z
    · exact z
    · rw [List.getElem?_eq_none (by rw [wz_len]; exact z)] at h; cases h
  rw [wz_get hk] at h
  exact ⟨hk, (Option.some.inj h).symm⟩
theorem wz_D {ad : Nat → Nat} {ty : Nat → ClassId} {σ : Dz} (hj : ∀ i j, i < 68 → j < 68 → ad i = ad j → i = j) (n : Nat) : va_D (Az ad n) (wz ad ty σ) := by
  refine ⟨fun i j p q h1 h2 e => ?_, fun k q h => ?_⟩
  · obtain ⟨a1, rfl⟩ := wz_get' h1
    obtain ⟨a2, rfl⟩ := wz_get' h2
    exact hj i j a1 a2 e
  · obtain ⟨a1, rfl⟩ := wz_get' h
    exact Or.inl ⟨k, a1, rfl⟩
theorem wz_set {ad : Nat → Nat} {ty : Nat → ClassId} {σ σ' : Dz} {k : Nat} {e : va_E} (hk : k < 68) (he : ez ad ty σ' k = e) (ho : ∀ j, j ≠ k → ez ad ty σ' j = ez ad ty σ j) : (wz ad ty σ).set k (ad k, e) = wz ad ty σ' := by
  refine List.ext_getElem? (fun j => ?_)
  rw [List.getElem?_set, wz_len]
  by_cases hjk : k = j
  · subst hjk
    rw [if_pos rfl, if_pos hk, wz_get hk, he]
  · rw [if_neg hjk]
    rcases Nat.lt_or_ge j 68 with z | z
    · rw [wz_get z, wz_get z, ho j (Ne.symm hjk)]
    · rw [List.getElem?_eq_none (by rw [wz_len]; exact z), List.getElem?_eq_none (by rw [wz_len]; exact z)]
theorem sz_i_ne {ad : Nat → Nat} {ty : Nat → ClassId} (σ : Dz) (k i : Nat) (v : Int32) (j : Nat) (h : j ≠ k) : ez ad ty (sz_i σ k i v) j = ez ad ty σ j := by
  simp only [ez, sz_i, va_up_ne _ _ h]
theorem sz_f_ne {ad : Nat → Nat} {ty : Nat → ClassId} (σ : Dz) (k i : Nat) (v : UInt32) (j : Nat) (h : j ≠ k) : ez ad ty (sz_f σ k i v) j = ez ad ty σ j := by
  simp only [ez, sz_f, va_up_ne _ _ h]
theorem sz_d_ne {ad : Nat → Nat} {ty : Nat → ClassId} (σ : Dz) (k i : Nat) (v : UInt64) (j : Nat) (h : j ≠ k) : ez ad ty (sz_d σ k i v) j = ez ad ty σ j := by
  simp only [ez, sz_d, va_up_ne _ _ h]
theorem sz_l_ne {ad : Nat → Nat} {ty : Nat → ClassId} (σ : Dz) (k i : Nat) (v : Int64) (j : Nat) (h : j ≠ k) : ez ad ty (sz_l σ k i v) j = ez ad ty σ j := by
  simp only [ez, sz_l, va_up_ne _ _ h]
theorem sz_i_at (σ : Dz) (k i : Nat) (v : Int32) : (sz_i σ k i v).1 k = upd (σ.1 k) i v := by simp [sz_i, va_up_self]
theorem sz_f_at (σ : Dz) (k i : Nat) (v : UInt32) : (sz_f σ k i v).2.1 k = vf_upd (σ.2.1 k) i v := by simp [sz_f, va_up_self]
theorem sz_d_at (σ : Dz) (k i : Nat) (v : UInt64) : (sz_d σ k i v).2.2.1 k = vf_upd (σ.2.2.1 k) i v := by simp [sz_d, va_up_self]
theorem sz_l_at (σ : Dz) (k i : Nat) (v : Int64) : (sz_l σ k i v).2.2.2 k = vp_updL (σ.2.2.2 k) i v := by simp [sz_l, va_up_self]
/-- an int row of n places at the cell k -/
def isA (k n : Nat) : Prop := k < 68 ∧ ∀ (ad : Nat → Nat) (ty : Nat → ClassId) (f : Nat → Int32) (g : Nat → UInt32) (h : Nat → UInt64) (q : Nat → Int64), cz ad ty f g h q k = .inl (ty 3, n, .inl f)
theorem ceW {w : Nat} (hw : isW w) : w < 68 ∧ ∀ (ad : Nat → Nat) (ty : Nat → ClassId) (f : Nat → Int32) (g : Nat → UInt32) (h : Nat → UInt64) (q : Nat → Int64), cz ad ty f g h q w = .inr (5, [.ref (ad (w + 1)), .int (f 1)]) := by
  rcases hw with rfl | rfl | rfl | rfl | rfl | rfl | rfl | rfl | rfl <;> exact ⟨by decide, fun _ _ _ _ _ _ => rfl⟩
theorem caW {w : Nat} (hw : isW w) : isA (w + 1) 200 := by
  rcases hw with rfl | rfl | rfl | rfl | rfl | rfl | rfl | rfl | rfl <;> exact ⟨by decide, fun _ _ _ _ _ _ => rfl⟩
theorem ceS {k : Nat} (hk : isS k) : k < 68 ∧ ∀ (ad : Nat → Nat) (ty : Nat → ClassId) (f : Nat → Int32) (g : Nat → UInt32) (h : Nat → UInt64) (q : Nat → Int64), cz ad ty f g h q k = .inr (3, [.ref (ad (k + 1)), .ref (ad (k + 2)), .int (f 2), .int (f 3)]) := by
  rcases hk with rfl | rfl <;> exact ⟨by decide, fun _ _ _ _ _ _ => rfl⟩
theorem caS {k : Nat} (hk : isS k) : isA (k + 1) 10 := by
  rcases hk with rfl | rfl <;> exact ⟨by decide, fun _ _ _ _ _ _ => rfl⟩
theorem cwS2 {k : Nat} (hk : isS k) : k + 2 < 68 ∧ ∀ (ad : Nat → Nat) (ty : Nat → ClassId) (f : Nat → Int32) (g : Nat → UInt32) (h : Nat → UInt64) (q : Nat → Int64), cz ad ty f g h q (k + 2) = .inl (ty 5, 4, .inr (.inr (.inr (.inr (fun i => some (ad (k + 3 + 2 * i))))))) := by
  rcases hk with rfl | rfl <;> exact ⟨by decide, fun _ _ _ _ _ _ => rfl⟩
theorem isW_S {k i : Nat} (hk : isS k) (hi : i < 4) : isW (k + 3 + 2 * i) := by
  rcases hk with rfl | rfl <;> rcases (show i = 0 ∨ i = 1 ∨ i = 2 ∨ i = 3 by omega) with rfl | rfl | rfl | rfl <;> (unfold isW; decide)

theorem ce_0 (ad : Nat → Nat) (ty : Nat → ClassId) (f : Nat → Int32) (g : Nat → UInt32) (h : Nat → UInt64) (q : Nat → Int64) : cz ad ty f g h q 0 = .inr (8, [.ref (ad 1), .ref (ad 3), .ref (ad 4), .ref (ad 6), .ref (ad 9), .ref (ad 12), .ref (ad 17), .ref (ad 28), .ref (ad 39), .ref (ad 41), .ref (ad 42), .int (f 11), .int (f 12), .int (f 13), .int (f 14)]) := rfl
theorem ce_1 (ad : Nat → Nat) (ty : Nat → ClassId) (f : Nat → Int32) (g : Nat → UInt32) (h : Nat → UInt64) (q : Nat → Int64) : cz ad ty f g h q 1 = .inr (4, [.ref (ad 2), .int (f 1)]) := rfl
theorem ce_2 (ad : Nat → Nat) (ty : Nat → ClassId) (f : Nat → Int32) (g : Nat → UInt32) (h : Nat → UInt64) (q : Nat → Int64) : cz ad ty f g h q 2 = .inl (ty 0, 40, .inl f) := rfl
theorem ce_3 (ad : Nat → Nat) (ty : Nat → ClassId) (f : Nat → Int32) (g : Nat → UInt32) (h : Nat → UInt64) (q : Nat → Int64) : cz ad ty f g h q 3 = .inr (1, [.int (f 0), .int (f 1), .int (f 2), .int (f 3), .int (f 4), .int (f 5)]) := rfl
theorem ce_4 (ad : Nat → Nat) (ty : Nat → ClassId) (f : Nat → Int32) (g : Nat → UInt32) (h : Nat → UInt64) (q : Nat → Int64) : cz ad ty f g h q 4 = .inr (6, [.ref (ad 5), .int (f 1), .int (f 2)]) := rfl
theorem ce_5 (ad : Nat → Nat) (ty : Nat → ClassId) (f : Nat → Int32) (g : Nat → UInt32) (h : Nat → UInt64) (q : Nat → Int64) : cz ad ty f g h q 5 = .inl (ty 0, 6, .inl f) := rfl
theorem ce_6 (ad : Nat → Nat) (ty : Nat → ClassId) (f : Nat → Int32) (g : Nat → UInt32) (h : Nat → UInt64) (q : Nat → Int64) : cz ad ty f g h q 6 = .inr (7, [.ref (ad 7), .ref (ad 8), .int (f 2), .int (f 3)]) := rfl
theorem ce_7 (ad : Nat → Nat) (ty : Nat → ClassId) (f : Nat → Int32) (g : Nat → UInt32) (h : Nat → UInt64) (q : Nat → Int64) : cz ad ty f g h q 7 = .inl (ty 3, 6, .inl f) := rfl
theorem ce_8 (ad : Nat → Nat) (ty : Nat → ClassId) (f : Nat → Int32) (g : Nat → UInt32) (h : Nat → UInt64) (q : Nat → Int64) : cz ad ty f g h q 8 = .inl (ty 3, 6, .inl f) := rfl
theorem ce_9 (ad : Nat → Nat) (ty : Nat → ClassId) (f : Nat → Int32) (g : Nat → UInt32) (h : Nat → UInt64) (q : Nat → Int64) : cz ad ty f g h q 9 = .inr (0, [.ref (ad 10), .ref (ad 11), .int (f 2), .int (f 3), .int (f 4)]) := rfl
theorem ce_10 (ad : Nat → Nat) (ty : Nat → ClassId) (f : Nat → Int32) (g : Nat → UInt32) (h : Nat → UInt64) (q : Nat → Int64) : cz ad ty f g h q 10 = .inl (ty 3, 10, .inl f) := rfl
theorem ce_11 (ad : Nat → Nat) (ty : Nat → ClassId) (f : Nat → Int32) (g : Nat → UInt32) (h : Nat → UInt64) (q : Nat → Int64) : cz ad ty f g h q 11 = .inl (ty 3, 110, .inl f) := rfl
theorem ce_12 (ad : Nat → Nat) (ty : Nat → ClassId) (f : Nat → Int32) (g : Nat → UInt32) (h : Nat → UInt64) (q : Nat → Int64) : cz ad ty f g h q 12 = .inr (2, [.ref (ad 13), .ref (ad 14), .ref (ad 15), .ref (ad 16), .int (f 4), .int (f 5), .int (f 6)]) := rfl
theorem ce_13 (ad : Nat → Nat) (ty : Nat → ClassId) (f : Nat → Int32) (g : Nat → UInt32) (h : Nat → UInt64) (q : Nat → Int64) : cz ad ty f g h q 13 = .inl (ty 3, 5040, .inl f) := rfl
theorem ce_14 (ad : Nat → Nat) (ty : Nat → ClassId) (f : Nat → Int32) (g : Nat → UInt32) (h : Nat → UInt64) (q : Nat → Int64) : cz ad ty f g h q 14 = .inl (ty 3, 5040, .inl f) := rfl
theorem ce_15 (ad : Nat → Nat) (ty : Nat → ClassId) (f : Nat → Int32) (g : Nat → UInt32) (h : Nat → UInt64) (q : Nat → Int64) : cz ad ty f g h q 15 = .inl (ty 3, 5041, .inl f) := rfl
theorem ce_16 (ad : Nat → Nat) (ty : Nat → ClassId) (f : Nat → Int32) (g : Nat → UInt32) (h : Nat → UInt64) (q : Nat → Int64) : cz ad ty f g h q 16 = .inl (ty 3, 10, .inl f) := rfl
theorem ce_17 (ad : Nat → Nat) (ty : Nat → ClassId) (f : Nat → Int32) (g : Nat → UInt32) (h : Nat → UInt64) (q : Nat → Int64) : cz ad ty f g h q 17 = .inr (3, [.ref (ad 18), .ref (ad 19), .int (f 2), .int (f 3)]) := rfl
theorem ce_18 (ad : Nat → Nat) (ty : Nat → ClassId) (f : Nat → Int32) (g : Nat → UInt32) (h : Nat → UInt64) (q : Nat → Int64) : cz ad ty f g h q 18 = .inl (ty 3, 10, .inl f) := rfl
theorem ce_19 (ad : Nat → Nat) (ty : Nat → ClassId) (f : Nat → Int32) (g : Nat → UInt32) (h : Nat → UInt64) (q : Nat → Int64) : cz ad ty f g h q 19 = .inl (ty 5, 4, .inr (.inr (.inr (.inr (fun i => some (ad (20 + 2 * i))))))) := rfl
theorem ce_20 (ad : Nat → Nat) (ty : Nat → ClassId) (f : Nat → Int32) (g : Nat → UInt32) (h : Nat → UInt64) (q : Nat → Int64) : cz ad ty f g h q 20 = .inr (5, [.ref (ad 21), .int (f 1)]) := rfl
theorem ce_21 (ad : Nat → Nat) (ty : Nat → ClassId) (f : Nat → Int32) (g : Nat → UInt32) (h : Nat → UInt64) (q : Nat → Int64) : cz ad ty f g h q 21 = .inl (ty 3, 200, .inl f) := rfl
theorem ce_22 (ad : Nat → Nat) (ty : Nat → ClassId) (f : Nat → Int32) (g : Nat → UInt32) (h : Nat → UInt64) (q : Nat → Int64) : cz ad ty f g h q 22 = .inr (5, [.ref (ad 23), .int (f 1)]) := rfl
theorem ce_23 (ad : Nat → Nat) (ty : Nat → ClassId) (f : Nat → Int32) (g : Nat → UInt32) (h : Nat → UInt64) (q : Nat → Int64) : cz ad ty f g h q 23 = .inl (ty 3, 200, .inl f) := rfl
theorem ce_24 (ad : Nat → Nat) (ty : Nat → ClassId) (f : Nat → Int32) (g : Nat → UInt32) (h : Nat → UInt64) (q : Nat → Int64) : cz ad ty f g h q 24 = .inr (5, [.ref (ad 25), .int (f 1)]) := rfl
theorem ce_25 (ad : Nat → Nat) (ty : Nat → ClassId) (f : Nat → Int32) (g : Nat → UInt32) (h : Nat → UInt64) (q : Nat → Int64) : cz ad ty f g h q 25 = .inl (ty 3, 200, .inl f) := rfl
theorem ce_26 (ad : Nat → Nat) (ty : Nat → ClassId) (f : Nat → Int32) (g : Nat → UInt32) (h : Nat → UInt64) (q : Nat → Int64) : cz ad ty f g h q 26 = .inr (5, [.ref (ad 27), .int (f 1)]) := rfl
theorem ce_27 (ad : Nat → Nat) (ty : Nat → ClassId) (f : Nat → Int32) (g : Nat → UInt32) (h : Nat → UInt64) (q : Nat → Int64) : cz ad ty f g h q 27 = .inl (ty 3, 200, .inl f) := rfl
theorem ce_28 (ad : Nat → Nat) (ty : Nat → ClassId) (f : Nat → Int32) (g : Nat → UInt32) (h : Nat → UInt64) (q : Nat → Int64) : cz ad ty f g h q 28 = .inr (3, [.ref (ad 29), .ref (ad 30), .int (f 2), .int (f 3)]) := rfl
theorem ce_29 (ad : Nat → Nat) (ty : Nat → ClassId) (f : Nat → Int32) (g : Nat → UInt32) (h : Nat → UInt64) (q : Nat → Int64) : cz ad ty f g h q 29 = .inl (ty 3, 10, .inl f) := rfl
theorem ce_30 (ad : Nat → Nat) (ty : Nat → ClassId) (f : Nat → Int32) (g : Nat → UInt32) (h : Nat → UInt64) (q : Nat → Int64) : cz ad ty f g h q 30 = .inl (ty 5, 4, .inr (.inr (.inr (.inr (fun i => some (ad (31 + 2 * i))))))) := rfl
theorem ce_31 (ad : Nat → Nat) (ty : Nat → ClassId) (f : Nat → Int32) (g : Nat → UInt32) (h : Nat → UInt64) (q : Nat → Int64) : cz ad ty f g h q 31 = .inr (5, [.ref (ad 32), .int (f 1)]) := rfl
theorem ce_32 (ad : Nat → Nat) (ty : Nat → ClassId) (f : Nat → Int32) (g : Nat → UInt32) (h : Nat → UInt64) (q : Nat → Int64) : cz ad ty f g h q 32 = .inl (ty 3, 200, .inl f) := rfl
theorem ce_33 (ad : Nat → Nat) (ty : Nat → ClassId) (f : Nat → Int32) (g : Nat → UInt32) (h : Nat → UInt64) (q : Nat → Int64) : cz ad ty f g h q 33 = .inr (5, [.ref (ad 34), .int (f 1)]) := rfl
theorem ce_34 (ad : Nat → Nat) (ty : Nat → ClassId) (f : Nat → Int32) (g : Nat → UInt32) (h : Nat → UInt64) (q : Nat → Int64) : cz ad ty f g h q 34 = .inl (ty 3, 200, .inl f) := rfl
theorem ce_35 (ad : Nat → Nat) (ty : Nat → ClassId) (f : Nat → Int32) (g : Nat → UInt32) (h : Nat → UInt64) (q : Nat → Int64) : cz ad ty f g h q 35 = .inr (5, [.ref (ad 36), .int (f 1)]) := rfl
theorem ce_36 (ad : Nat → Nat) (ty : Nat → ClassId) (f : Nat → Int32) (g : Nat → UInt32) (h : Nat → UInt64) (q : Nat → Int64) : cz ad ty f g h q 36 = .inl (ty 3, 200, .inl f) := rfl
theorem ce_37 (ad : Nat → Nat) (ty : Nat → ClassId) (f : Nat → Int32) (g : Nat → UInt32) (h : Nat → UInt64) (q : Nat → Int64) : cz ad ty f g h q 37 = .inr (5, [.ref (ad 38), .int (f 1)]) := rfl
theorem ce_38 (ad : Nat → Nat) (ty : Nat → ClassId) (f : Nat → Int32) (g : Nat → UInt32) (h : Nat → UInt64) (q : Nat → Int64) : cz ad ty f g h q 38 = .inl (ty 3, 200, .inl f) := rfl
theorem ce_39 (ad : Nat → Nat) (ty : Nat → ClassId) (f : Nat → Int32) (g : Nat → UInt32) (h : Nat → UInt64) (q : Nat → Int64) : cz ad ty f g h q 39 = .inr (5, [.ref (ad 40), .int (f 1)]) := rfl
theorem ce_40 (ad : Nat → Nat) (ty : Nat → ClassId) (f : Nat → Int32) (g : Nat → UInt32) (h : Nat → UInt64) (q : Nat → Int64) : cz ad ty f g h q 40 = .inl (ty 3, 200, .inl f) := rfl
theorem ce_41 (ad : Nat → Nat) (ty : Nat → ClassId) (f : Nat → Int32) (g : Nat → UInt32) (h : Nat → UInt64) (q : Nat → Int64) : cz ad ty f g h q 41 = .inl (ty 2, 24, .inr (.inr (.inl g))) := rfl
theorem ce_42 (ad : Nat → Nat) (ty : Nat → ClassId) (f : Nat → Int32) (g : Nat → UInt32) (h : Nat → UInt64) (q : Nat → Int64) : cz ad ty f g h q 42 = .inl (ty 1, 24, .inr (.inr (.inr (.inl h)))) := rfl
theorem ce_43 (ad : Nat → Nat) (ty : Nat → ClassId) (f : Nat → Int32) (g : Nat → UInt32) (h : Nat → UInt64) (q : Nat → Int64) : cz ad ty f g h q 43 = .inr (9, [.int (f 0), .int (f 1), .ref (ad 44), .ref (ad 45), .ref (ad 46), .ref (ad 47), .ref (ad 48), .ref (ad 49), .int (f 8), .int (f 9), .ref (ad 50), .ref (ad 51), .int (f 12), .ref (ad 52), .ref (ad 53), .ref (ad 54), .ref (ad 55), .ref (ad 56), .int (f 18), .ref (ad 57), .ref (ad 58), .ref (ad 59), .int (f 22), .int (f 23), .int (f 24), .int (f 25), .ref (ad 60), .int (f 27), .ref (ad 61), .ref (ad 62), .ref (ad 63), .ref (ad 64), .int (f 32), .int (f 33), .ref (ad 65)]) := rfl
theorem ce_44 (ad : Nat → Nat) (ty : Nat → ClassId) (f : Nat → Int32) (g : Nat → UInt32) (h : Nat → UInt64) (q : Nat → Int64) : cz ad ty f g h q 44 = .inl (ty 3, 8, .inl f) := rfl
theorem ce_45 (ad : Nat → Nat) (ty : Nat → ClassId) (f : Nat → Int32) (g : Nat → UInt32) (h : Nat → UInt64) (q : Nat → Int64) : cz ad ty f g h q 45 = .inl (ty 4, 5, .inl f) := rfl
theorem ce_46 (ad : Nat → Nat) (ty : Nat → ClassId) (f : Nat → Int32) (g : Nat → UInt32) (h : Nat → UInt64) (q : Nat → Int64) : cz ad ty f g h q 46 = .inl (ty 3, 80, .inl f) := rfl
theorem ce_47 (ad : Nat → Nat) (ty : Nat → ClassId) (f : Nat → Int32) (g : Nat → UInt32) (h : Nat → UInt64) (q : Nat → Int64) : cz ad ty f g h q 47 = .inl (ty 3, 4, .inl f) := rfl
theorem ce_48 (ad : Nat → Nat) (ty : Nat → ClassId) (f : Nat → Int32) (g : Nat → UInt32) (h : Nat → UInt64) (q : Nat → Int64) : cz ad ty f g h q 48 = .inl (ty 3, 800, .inl f) := rfl
theorem ce_49 (ad : Nat → Nat) (ty : Nat → ClassId) (f : Nat → Int32) (g : Nat → UInt32) (h : Nat → UInt64) (q : Nat → Int64) : cz ad ty f g h q 49 = .inl (ty 0, 40, .inl f) := rfl
theorem ce_50 (ad : Nat → Nat) (ty : Nat → ClassId) (f : Nat → Int32) (g : Nat → UInt32) (h : Nat → UInt64) (q : Nat → Int64) : cz ad ty f g h q 50 = .inl (ty 2, 24, .inr (.inr (.inl g))) := rfl
theorem ce_51 (ad : Nat → Nat) (ty : Nat → ClassId) (f : Nat → Int32) (g : Nat → UInt32) (h : Nat → UInt64) (q : Nat → Int64) : cz ad ty f g h q 51 = .inl (ty 1, 24, .inr (.inr (.inr (.inl h)))) := rfl
theorem ce_52 (ad : Nat → Nat) (ty : Nat → ClassId) (f : Nat → Int32) (g : Nat → UInt32) (h : Nat → UInt64) (q : Nat → Int64) : cz ad ty f g h q 52 = .inl (ty 3, 8, .inl f) := rfl
theorem ce_53 (ad : Nat → Nat) (ty : Nat → ClassId) (f : Nat → Int32) (g : Nat → UInt32) (h : Nat → UInt64) (q : Nat → Int64) : cz ad ty f g h q 53 = .inl (ty 4, 5, .inl f) := rfl
theorem ce_54 (ad : Nat → Nat) (ty : Nat → ClassId) (f : Nat → Int32) (g : Nat → UInt32) (h : Nat → UInt64) (q : Nat → Int64) : cz ad ty f g h q 54 = .inl (ty 3, 80, .inl f) := rfl
theorem ce_55 (ad : Nat → Nat) (ty : Nat → ClassId) (f : Nat → Int32) (g : Nat → UInt32) (h : Nat → UInt64) (q : Nat → Int64) : cz ad ty f g h q 55 = .inl (ty 3, 4, .inl f) := rfl
theorem ce_56 (ad : Nat → Nat) (ty : Nat → ClassId) (f : Nat → Int32) (g : Nat → UInt32) (h : Nat → UInt64) (q : Nat → Int64) : cz ad ty f g h q 56 = .inl (ty 3, 800, .inl f) := rfl
theorem ce_57 (ad : Nat → Nat) (ty : Nat → ClassId) (f : Nat → Int32) (g : Nat → UInt32) (h : Nat → UInt64) (q : Nat → Int64) : cz ad ty f g h q 57 = .inl (ty 3, 8, .inl f) := rfl
theorem ce_58 (ad : Nat → Nat) (ty : Nat → ClassId) (f : Nat → Int32) (g : Nat → UInt32) (h : Nat → UInt64) (q : Nat → Int64) : cz ad ty f g h q 58 = .inl (ty 4, 8, .inl f) := rfl
theorem ce_59 (ad : Nat → Nat) (ty : Nat → ClassId) (f : Nat → Int32) (g : Nat → UInt32) (h : Nat → UInt64) (q : Nat → Int64) : cz ad ty f g h q 59 = .inl (ty 3, 300, .inl f) := rfl
theorem ce_60 (ad : Nat → Nat) (ty : Nat → ClassId) (f : Nat → Int32) (g : Nat → UInt32) (h : Nat → UInt64) (q : Nat → Int64) : cz ad ty f g h q 60 = .inl (ty 3, 8, .inl f) := rfl
theorem ce_61 (ad : Nat → Nat) (ty : Nat → ClassId) (f : Nat → Int32) (g : Nat → UInt32) (h : Nat → UInt64) (q : Nat → Int64) : cz ad ty f g h q 61 = .inl (ty 3, 5040, .inl f) := rfl
theorem ce_62 (ad : Nat → Nat) (ty : Nat → ClassId) (f : Nat → Int32) (g : Nat → UInt32) (h : Nat → UInt64) (q : Nat → Int64) : cz ad ty f g h q 62 = .inl (ty 3, 5040, .inl f) := rfl
theorem ce_63 (ad : Nat → Nat) (ty : Nat → ClassId) (f : Nat → Int32) (g : Nat → UInt32) (h : Nat → UInt64) (q : Nat → Int64) : cz ad ty f g h q 63 = .inl (ty 3, 8, .inl f) := rfl
theorem ce_64 (ad : Nat → Nat) (ty : Nat → ClassId) (f : Nat → Int32) (g : Nat → UInt32) (h : Nat → UInt64) (q : Nat → Int64) : cz ad ty f g h q 64 = .inl (ty 3, 8, .inl f) := rfl
theorem ce_65 (ad : Nat → Nat) (ty : Nat → ClassId) (f : Nat → Int32) (g : Nat → UInt32) (h : Nat → UInt64) (q : Nat → Int64) : cz ad ty f g h q 65 = .inl (ty 3, 5041, .inl f) := rfl
theorem ce_66 (ad : Nat → Nat) (ty : Nat → ClassId) (f : Nat → Int32) (g : Nat → UInt32) (h : Nat → UInt64) (q : Nat → Int64) : cz ad ty f g h q 66 = .inl (ty 6, 1, .inr (.inl q)) := rfl
theorem ce_67 (ad : Nat → Nat) (ty : Nat → ClassId) (f : Nat → Int32) (g : Nat → UInt32) (h : Nat → UInt64) (q : Nat → Int64) : cz ad ty f g h q 67 = .inl (ty 1, 1, .inr (.inr (.inr (.inl h)))) := rfl
end ZWorld
section ZYz
def zStr : List (String × Nat × String) := [("PermutationPuzzle", 92, "a puzzle has 2 to 7 positions"), ("PermutationPuzzle", 100, "the code is not from 32 to 126"), ("PermutationPuzzle", 108, "the buffer is full"), ("PermutationPuzzle", 312, "no such move"), ("PermutationPuzzle", 124, "the cycles are malformed"), ("PermutationPuzzle", 314, "no such slot"), ("PermutationPuzzle", 154, "the word is malformed"), ("PermutationPuzzle", 156, "a name is that of an undefined move"), ("PermutationPuzzle", 160, "the word has more than 200 letters"), ("PermutationPuzzle", 169, "no text was malformed"), ("PermutationPuzzle", 316, "no such position"), ("PermutationPuzzle", 179, "the move is undefined"), ("PermutationPuzzle", 194, "no such letter"), ("PermutationPuzzle", 208, "the conjugate has more than 200 letters"), ("PermutationPuzzle", 210, "the commutator has more than 200 letters"), ("PermutationPuzzle", 224, "times is not from -100 to 100"), ("PermutationPuzzle", 332, "the arrangement is not reachable"), ("PermutationPuzzle", 281, "no such commutator"), ("PermutationPuzzle", 318, "no such row"), ("PermutationPuzzle", 320, "no such element"), ("PermutationPuzzle", 292, "the factor is not from -1000 to 1000"), ("PermutationPuzzle", 335, "the product is too great"), ("PermutationPuzzle", 300, "the divisor is 0"), ("PermutationPuzzle", 310, "there is no snapshot")]
def zDc : List MethodName := [⟨"java/lang/RuntimeException", "<init>", "()V"⟩, ⟨"java/lang/RuntimeException", "<init>", "(Ljava/lang/String;)V"⟩, ⟨"java/lang/Exception", "<init>", "()V"⟩, ⟨"java/lang/Exception", "<init>", "(Ljava/lang/String;)V"⟩, ⟨"java/lang/Throwable", "<init>", "()V"⟩, ⟨"java/lang/Throwable", "<init>", "(Ljava/lang/String;)V"⟩, ⟨"java/lang/IndexOutOfBoundsException", "<init>", "()V"⟩, ⟨"java/lang/IndexOutOfBoundsException", "<init>", "(Ljava/lang/String;)V"⟩]
def zCs : List (String × String) := [("java/lang/IllegalArgumentException", "java/lang/IllegalArgumentException"), ("java/lang/IllegalStateException", "java/lang/IllegalStateException"), ("java/lang/IndexOutOfBoundsException", "java/lang/IndexOutOfBoundsException"), ("java/lang/ArithmeticException", "java/lang/ArithmeticException"), ("java/util/NoSuchElementException", "java/util/NoSuchElementException")]
def zNc : List (String × String) := [("java/lang/IllegalStateException", "java/lang/IllegalArgumentException"), ("java/lang/IndexOutOfBoundsException", "java/lang/IllegalArgumentException"), ("java/lang/ArithmeticException", "java/lang/IllegalArgumentException"), ("java/util/NoSuchElementException", "java/lang/IllegalArgumentException"), ("java/lang/IllegalArgumentException", "java/lang/IllegalStateException"), ("java/lang/IndexOutOfBoundsException", "java/lang/IllegalStateException"), ("java/lang/ArithmeticException", "java/lang/IllegalStateException"), ("java/util/NoSuchElementException", "java/lang/IllegalStateException"), ("java/lang/IllegalArgumentException", "java/lang/IndexOutOfBoundsException"), ("java/lang/IllegalStateException", "java/lang/IndexOutOfBoundsException"), ("java/lang/ArithmeticException", "java/lang/IndexOutOfBoundsException"), ("java/util/NoSuchElementException", "java/lang/IndexOutOfBoundsException"), ("java/lang/IllegalArgumentException", "java/lang/ArithmeticException"), ("java/lang/IllegalStateException", "java/lang/ArithmeticException"), ("java/lang/IndexOutOfBoundsException", "java/lang/ArithmeticException"), ("java/util/NoSuchElementException", "java/lang/ArithmeticException"), ("java/lang/IllegalArgumentException", "java/util/NoSuchElementException"), ("java/lang/IllegalStateException", "java/util/NoSuchElementException"), ("java/lang/IndexOutOfBoundsException", "java/util/NoSuchElementException"), ("java/lang/ArithmeticException", "java/util/NoSuchElementException")]
/-- what a thrown exception needs of the state: the two statics of Throwable, the texts, the classes that are no others -/
def Yz (ad : Nat → Nat) (U : State) : Prop := vx_Zq Bundle.tN "UNASSIGNED_STACK" Bundle.steD (Az ad U.heap.size) U U.heap ∧ vx_Zq Bundle.tN "SUPPRESSED_SENTINEL" Bundle.listD (Az ad U.heap.size) U U.heap ∧ (∀ q ∈ zStr, ∃ sa, vk_R q.1 q.2.1 q.2.2 sa U) ∧ (∀ q ∈ zNc, va_Nc q.1 q.2 U) ∧ (∀ x ∈ zDc, va_Nw (.declares x) U) ∧ ∀ q ∈ zCs, va_Nw (.castable q.1 q.2) U
theorem Az_le {ad : Nat → Nat} {n n' : Nat} (h : n ≤ n') : ∀ q, Az ad n' q → Az ad n q := fun q hq => hq.elim Or.inl (fun z => Or.inr (Nat.le_trans h z))
theorem Yz.at {ad : Nat → Nat} {s U : State} {H : Heap} {locs : List Loc} (h : Yz ad s) (hS : va_S (Az ad s.heap.size) s.heap H locs) (hU : U.heap = H) (hW : s.WarmedH U.vm) : Yz ad U := by
  subst hU
  exact ⟨((h.1.kept hS.2.1).moved hW.alike).narrow (Az_le hS.1), ((h.2.1.kept hS.2.1).moved hW.alike).narrow (Az_le hS.1), fun q hq => (h.2.2.1 q hq).elim (fun sa z => ⟨sa, z.warm hW⟩), fun q hq => (h.2.2.2.1 q hq).moved hW.alike, fun x hx => (h.2.2.2.2.1 x hx).warmD hW, fun q hq => (h.2.2.2.2.2 q hq).warmC hW⟩
theorem Yz.calling {ad : Nat → Nat} {U : State} (h : Yz ad U) (g : JFrame) (mk : MethodId) (a : Array Value) : Yz ad (U.calling g mk a) := 
  ⟨h.1.moved (U := U.calling g mk a) (Vm.Alike.refl U.vm), h.2.1.moved (U := U.calling g mk a) (Vm.Alike.refl U.vm), fun q hq => (h.2.2.1 q hq).elim (fun sa z => ⟨sa, z.same rfl⟩), fun q hq => (h.2.2.2.1 q hq).moved (U := U.calling g mk a) (Vm.Alike.refl U.vm), fun x hx => va_Nw.same rfl rfl (h.2.2.2.2.1 x hx), fun q hq => va_Nw.same rfl rfl (h.2.2.2.2.2 q hq)⟩
end ZYz
