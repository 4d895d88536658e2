/-! words of the tables, by their places; callees; cells. Written by wip/whole/genall.py -/
theorem inz_X0 : ∀ w ∈ u_ws RX0 TX0 5, w ∈ zW := by
  intro w hw
  obtain ⟨k, hk, rfl⟩ := List.mem_map.mp hw
  have hk := List.mem_range.mp hk
  match k, hk with
  | 0, _ => exact zm1 119 rfl rfl
  | 1, _ => exact zm1 121 rfl rfl
  | 2, _ => exact zm1 123 rfl rfl
  | 3, _ => exact zm1 125 rfl rfl
  | 4, _ => exact zm1 127 rfl rfl
  | k + 5, hk => exact absurd hk (by omega)
theorem inz_X1 : ∀ w ∈ u_ws RX1 TX1 6, w ∈ zW := by
  intro w hw
  obtain ⟨k, hk, rfl⟩ := List.mem_map.mp hw
  have hk := List.mem_range.mp hk
  match k, hk with
  | 0, _ => exact zm1 59 rfl rfl
  | 1, _ => exact zm1 61 rfl rfl
  | 2, _ => exact zm1 63 rfl rfl
  | 3, _ => exact zm1 65 rfl rfl
  | 4, _ => exact zm1 67 rfl rfl
  | 5, _ => exact zm1 69 rfl rfl
  | k + 6, hk => exact absurd hk (by omega)
theorem inz_X2 : ∀ w ∈ u_ws RX2 TX2 7, w ∈ zW := by
  intro w hw
  obtain ⟨k, hk, rfl⟩ := List.mem_map.mp hw
  have hk := List.mem_range.mp hk
  match k, hk with
  | 0, _ => exact zm1 143 rfl rfl
  | 1, _ => exact zm1 145 rfl rfl
  | 2, _ => exact zm1 147 rfl rfl
  | 3, _ => exact zm1 149 rfl rfl
  | 4, _ => exact zm1 151 rfl rfl
  | 5, _ => exact zm1 153 rfl rfl
  | 6, _ => exact zm1 155 rfl rfl
  | k + 7, hk => exact absurd hk (by omega)
theorem inz_X4 : ∀ w ∈ u_ws RX4 TX4 4, w ∈ zW := by
  intro w hw
  obtain ⟨k, hk, rfl⟩ := List.mem_map.mp hw
  have hk := List.mem_range.mp hk
  match k, hk with
  | 0, _ => exact zm1 191 rfl rfl
  | 1, _ => exact zm1 193 rfl rfl
  | 2, _ => exact zm1 195 rfl rfl
  | 3, _ => exact zm1 197 rfl rfl
  | k + 4, hk => exact absurd hk (by omega)
theorem inz_X5 : ∀ w ∈ u_ws RX5 TX5 2, w ∈ zW := by
  intro w hw
  obtain ⟨k, hk, rfl⟩ := List.mem_map.mp hw
  have hk := List.mem_range.mp hk
  match k, hk with
  | 0, _ => exact zm1 40 rfl rfl
  | 1, _ => exact zm1 42 rfl rfl
  | k + 2, hk => exact absurd hk (by omega)
theorem inz_X6 : ∀ w ∈ u_ws RX6 TX6 2, w ∈ zW := by
  intro w hw
  obtain ⟨k, hk, rfl⟩ := List.mem_map.mp hw
  have hk := List.mem_range.mp hk
  match k, hk with
  | 0, _ => exact zm1 174 rfl rfl
  | 1, _ => exact zm1 176 rfl rfl
  | k + 2, hk => exact absurd hk (by omega)
theorem inz_X7 : ∀ w ∈ u_ws RX7 TX7 3, w ∈ zW := by
  intro w hw
  obtain ⟨k, hk, rfl⟩ := List.mem_map.mp hw
  have hk := List.mem_range.mp hk
  match k, hk with
  | 0, _ => exact zm1 81 rfl rfl
  | 1, _ => exact zm1 83 rfl rfl
  | 2, _ => exact zm1 85 rfl rfl
  | k + 3, hk => exact absurd hk (by omega)
theorem inz_X8 : ∀ w ∈ u_ws RX8 TX8 4, w ∈ zW := by
  intro w hw
  obtain ⟨k, hk, rfl⟩ := List.mem_map.mp hw
  have hk := List.mem_range.mp hk
  match k, hk with
  | 0, _ => exact zm1 98 rfl rfl
  | 1, _ => exact zm1 100 rfl rfl
  | 2, _ => exact zm1 102 rfl rfl
  | 3, _ => exact zm1 104 rfl rfl
  | k + 4, hk => exact absurd hk (by omega)
theorem inz_X9 : ∀ w ∈ u_ws RX9 TX9 15, w ∈ zW := by
  intro w hw
  obtain ⟨k, hk, rfl⟩ := List.mem_map.mp hw
  have hk := List.mem_range.mp hk
  match k, hk with
  | 0, _ => exact zm1 217 rfl rfl
  | 1, _ => exact zm1 219 rfl rfl
  | 2, _ => exact zm1 221 rfl rfl
  | 3, _ => exact zm1 223 rfl rfl
  | 4, _ => exact zm1 225 rfl rfl
  | 5, _ => exact zm1 227 rfl rfl
  | 6, _ => exact zm1 229 rfl rfl
  | 7, _ => exact zm1 231 rfl rfl
  | 8, _ => exact zm1 233 rfl rfl
  | 9, _ => exact zm1 235 rfl rfl
  | 10, _ => exact zm1 237 rfl rfl
  | 11, _ => exact zm1 239 rfl rfl
  | 12, _ => exact zm2 1 rfl rfl
  | 13, _ => exact zm2 3 rfl rfl
  | 14, _ => exact zm2 5 rfl rfl
  | k + 15, hk => exact absurd hk (by omega)
theorem inz_X10 : ∀ w ∈ u_ws RX10 TX10 35, w ∈ zW := by
  intro w hw
  obtain ⟨k, hk, rfl⟩ := List.mem_map.mp hw
  have hk := List.mem_range.mp hk
  match k, hk with
  | 0, _ => exact zm5 66 rfl rfl
  | 1, _ => exact zm5 68 rfl rfl
  | 2, _ => exact zm5 70 rfl rfl
  | 3, _ => exact zm5 72 rfl rfl
  | 4, _ => exact zm5 74 rfl rfl
  | 5, _ => exact zm5 76 rfl rfl
  | 6, _ => exact zm5 78 rfl rfl
  | 7, _ => exact zm5 80 rfl rfl
  | 8, _ => exact zm5 82 rfl rfl
  | 9, _ => exact zm5 84 rfl rfl
  | 10, _ => exact zm5 86 rfl rfl
  | 11, _ => exact zm5 88 rfl rfl
  | 12, _ => exact zm5 90 rfl rfl
  | 13, _ => exact zm5 92 rfl rfl
  | 14, _ => exact zm5 94 rfl rfl
  | 15, _ => exact zm5 96 rfl rfl
  | 16, _ => exact zm5 98 rfl rfl
  | 17, _ => exact zm5 100 rfl rfl
  | 18, _ => exact zm5 102 rfl rfl
  | 19, _ => exact zm5 104 rfl rfl
  | 20, _ => exact zm5 106 rfl rfl
  | 21, _ => exact zm5 108 rfl rfl
  | 22, _ => exact zm5 110 rfl rfl
  | 23, _ => exact zm5 112 rfl rfl
  | 24, _ => exact zm5 114 rfl rfl
  | 25, _ => exact zm5 116 rfl rfl
  | 26, _ => exact zm5 118 rfl rfl
  | 27, _ => exact zm5 120 rfl rfl
  | 28, _ => exact zm5 122 rfl rfl
  | 29, _ => exact zm5 124 rfl rfl
  | 30, _ => exact zm5 126 rfl rfl
  | 31, _ => exact zm5 128 rfl rfl
  | 32, _ => exact zm5 130 rfl rfl
  | 33, _ => exact zm5 132 rfl rfl
  | 34, _ => exact zm5 134 rfl rfl
  | k + 35, hk => exact absurd hk (by omega)
theorem peX0_2 {ad : Nat → Nat} {ty : Nat → ClassId} {σ : Dz} {x : Int32} : ez ad ty (sz_i σ 9 2 x) 9 = .inr (0, List.set [.ref (ad 10), .ref (ad 11), .int (σ.1 9 2), .int (σ.1 9 3), .int (σ.1 9 4)] 2 (.int x)) := rfl
theorem peX0_3 {ad : Nat → Nat} {ty : Nat → ClassId} {σ : Dz} {x : Int32} : ez ad ty (sz_i σ 9 3 x) 9 = .inr (0, List.set [.ref (ad 10), .ref (ad 11), .int (σ.1 9 2), .int (σ.1 9 3), .int (σ.1 9 4)] 3 (.int x)) := rfl
theorem peX0_4 {ad : Nat → Nat} {ty : Nat → ClassId} {σ : Dz} {x : Int32} : ez ad ty (sz_i σ 9 4 x) 9 = .inr (0, List.set [.ref (ad 10), .ref (ad 11), .int (σ.1 9 2), .int (σ.1 9 3), .int (σ.1 9 4)] 4 (.int x)) := rfl
theorem peX1_0 {ad : Nat → Nat} {ty : Nat → ClassId} {σ : Dz} {x : Int32} : ez ad ty (sz_i σ 3 0 x) 3 = .inr (1, List.set [.int (σ.1 3 0), .int (σ.1 3 1), .int (σ.1 3 2), .int (σ.1 3 3), .int (σ.1 3 4), .int (σ.1 3 5)] 0 (.int x)) := rfl
theorem peX1_1 {ad : Nat → Nat} {ty : Nat → ClassId} {σ : Dz} {x : Int32} : ez ad ty (sz_i σ 3 1 x) 3 = .inr (1, List.set [.int (σ.1 3 0), .int (σ.1 3 1), .int (σ.1 3 2), .int (σ.1 3 3), .int (σ.1 3 4), .int (σ.1 3 5)] 1 (.int x)) := rfl
theorem peX1_2 {ad : Nat → Nat} {ty : Nat → ClassId} {σ : Dz} {x : Int32} : ez ad ty (sz_i σ 3 2 x) 3 = .inr (1, List.set [.int (σ.1 3 0), .int (σ.1 3 1), .int (σ.1 3 2), .int (σ.1 3 3), .int (σ.1 3 4), .int (σ.1 3 5)] 2 (.int x)) := rfl
theorem peX1_3 {ad : Nat → Nat} {ty : Nat → ClassId} {σ : Dz} {x : Int32} : ez ad ty (sz_i σ 3 3 x) 3 = .inr (1, List.set [.int (σ.1 3 0), .int (σ.1 3 1), .int (σ.1 3 2), .int (σ.1 3 3), .int (σ.1 3 4), .int (σ.1 3 5)] 3 (.int x)) := rfl
theorem peX1_4 {ad : Nat → Nat} {ty : Nat → ClassId} {σ : Dz} {x : Int32} : ez ad ty (sz_i σ 3 4 x) 3 = .inr (1, List.set [.int (σ.1 3 0), .int (σ.1 3 1), .int (σ.1 3 2), .int (σ.1 3 3), .int (σ.1 3 4), .int (σ.1 3 5)] 4 (.int x)) := rfl
theorem peX1_5 {ad : Nat → Nat} {ty : Nat → ClassId} {σ : Dz} {x : Int32} : ez ad ty (sz_i σ 3 5 x) 3 = .inr (1, List.set [.int (σ.1 3 0), .int (σ.1 3 1), .int (σ.1 3 2), .int (σ.1 3 3), .int (σ.1 3 4), .int (σ.1 3 5)] 5 (.int x)) := rfl
theorem peX2_4 {ad : Nat → Nat} {ty : Nat → ClassId} {σ : Dz} {x : Int32} : ez ad ty (sz_i σ 12 4 x) 12 = .inr (2, List.set [.ref (ad 13), .ref (ad 14), .ref (ad 15), .ref (ad 16), .int (σ.1 12 4), .int (σ.1 12 5), .int (σ.1 12 6)] 4 (.int x)) := rfl
theorem peX2_5 {ad : Nat → Nat} {ty : Nat → ClassId} {σ : Dz} {x : Int32} : ez ad ty (sz_i σ 12 5 x) 12 = .inr (2, List.set [.ref (ad 13), .ref (ad 14), .ref (ad 15), .ref (ad 16), .int (σ.1 12 4), .int (σ.1 12 5), .int (σ.1 12 6)] 5 (.int x)) := rfl
theorem peX2_6 {ad : Nat → Nat} {ty : Nat → ClassId} {σ : Dz} {x : Int32} : ez ad ty (sz_i σ 12 6 x) 12 = .inr (2, List.set [.ref (ad 13), .ref (ad 14), .ref (ad 15), .ref (ad 16), .int (σ.1 12 4), .int (σ.1 12 5), .int (σ.1 12 6)] 6 (.int x)) := rfl
theorem peX4_2 {ad : Nat → Nat} {ty : Nat → ClassId} {σ : Dz} {k : Nat} {x : Int32} (hk : isS k) : ez ad ty (sz_i σ k 2 x) k = .inr (3, List.set [.ref (ad (k + 1)), .ref (ad (k + 2)), .int (σ.1 k 2), .int (σ.1 k 3)] 2 (.int x)) := by
  rw [ez, (ceS hk).2, sz_i_at]; rfl
theorem peX4_3 {ad : Nat → Nat} {ty : Nat → ClassId} {σ : Dz} {k : Nat} {x : Int32} (hk : isS k) : ez ad ty (sz_i σ k 3 x) k = .inr (3, List.set [.ref (ad (k + 1)), .ref (ad (k + 2)), .int (σ.1 k 2), .int (σ.1 k 3)] 3 (.int x)) := by
  rw [ez, (ceS hk).2, sz_i_at]; rfl
theorem peX5_1 {ad : Nat → Nat} {ty : Nat → ClassId} {σ : Dz} {x : Int32} : ez ad ty (sz_i σ 1 1 x) 1 = .inr (4, List.set [.ref (ad 2), .int (σ.1 1 1)] 1 (.int x)) := rfl
theorem peX6_1 {ad : Nat → Nat} {ty : Nat → ClassId} {σ : Dz} {w : Nat} {x : Int32} (hw : isW w) : ez ad ty (sz_i σ w 1 x) w = .inr (5, List.set [.ref (ad (w + 1)), .int (σ.1 w 1)] 1 (.int x)) := by
  rw [ez, (ceW hw).2, sz_i_at]; rfl
theorem peX7_1 {ad : Nat → Nat} {ty : Nat → ClassId} {σ : Dz} {x : Int32} : ez ad ty (sz_i σ 4 1 x) 4 = .inr (6, List.set [.ref (ad 5), .int (σ.1 4 1), .int (σ.1 4 2)] 1 (.int x)) := rfl
theorem peX7_2 {ad : Nat → Nat} {ty : Nat → ClassId} {σ : Dz} {x : Int32} : ez ad ty (sz_i σ 4 2 x) 4 = .inr (6, List.set [.ref (ad 5), .int (σ.1 4 1), .int (σ.1 4 2)] 2 (.int x)) := rfl
theorem peX8_2 {ad : Nat → Nat} {ty : Nat → ClassId} {σ : Dz} {x : Int32} : ez ad ty (sz_i σ 6 2 x) 6 = .inr (7, List.set [.ref (ad 7), .ref (ad 8), .int (σ.1 6 2), .int (σ.1 6 3)] 2 (.int x)) := rfl
theorem peX8_3 {ad : Nat → Nat} {ty : Nat → ClassId} {σ : Dz} {x : Int32} : ez ad ty (sz_i σ 6 3 x) 6 = .inr (7, List.set [.ref (ad 7), .ref (ad 8), .int (σ.1 6 2), .int (σ.1 6 3)] 3 (.int x)) := rfl
theorem peX9_11 {ad : Nat → Nat} {ty : Nat → ClassId} {σ : Dz} {x : Int32} : ez ad ty (sz_i σ 0 11 x) 0 = .inr (8, List.set [.ref (ad 1), .ref (ad 3), .ref (ad 4), .ref (ad 6), .ref (ad 9), .ref (ad 12), .ref (ad 17), .ref (ad 28), .ref (ad 39), .ref (ad 41), .ref (ad 42), .int (σ.1 0 11), .int (σ.1 0 12), .int (σ.1 0 13), .int (σ.1 0 14)] 11 (.int x)) := rfl
theorem peX9_12 {ad : Nat → Nat} {ty : Nat → ClassId} {σ : Dz} {x : Int32} : ez ad ty (sz_i σ 0 12 x) 0 = .inr (8, List.set [.ref (ad 1), .ref (ad 3), .ref (ad 4), .ref (ad 6), .ref (ad 9), .ref (ad 12), .ref (ad 17), .ref (ad 28), .ref (ad 39), .ref (ad 41), .ref (ad 42), .int (σ.1 0 11), .int (σ.1 0 12), .int (σ.1 0 13), .int (σ.1 0 14)] 12 (.int x)) := rfl
theorem peX9_13 {ad : Nat → Nat} {ty : Nat → ClassId} {σ : Dz} {x : Int32} : ez ad ty (sz_i σ 0 13 x) 0 = .inr (8, List.set [.ref (ad 1), .ref (ad 3), .ref (ad 4), .ref (ad 6), .ref (ad 9), .ref (ad 12), .ref (ad 17), .ref (ad 28), .ref (ad 39), .ref (ad 41), .ref (ad 42), .int (σ.1 0 11), .int (σ.1 0 12), .int (σ.1 0 13), .int (σ.1 0 14)] 13 (.int x)) := rfl
theorem peX9_14 {ad : Nat → Nat} {ty : Nat → ClassId} {σ : Dz} {x : Int32} : ez ad ty (sz_i σ 0 14 x) 0 = .inr (8, List.set [.ref (ad 1), .ref (ad 3), .ref (ad 4), .ref (ad 6), .ref (ad 9), .ref (ad 12), .ref (ad 17), .ref (ad 28), .ref (ad 39), .ref (ad 41), .ref (ad 42), .int (σ.1 0 11), .int (σ.1 0 12), .int (σ.1 0 13), .int (σ.1 0 14)] 14 (.int x)) := rfl
theorem peX10_0 {ad : Nat → Nat} {ty : Nat → ClassId} {σ : Dz} {x : Int32} : ez ad ty (sz_i σ 43 0 x) 43 = .inr (9, List.set [.int (σ.1 43 0), .int (σ.1 43 1), .ref (ad 44), .ref (ad 45), .ref (ad 46), .ref (ad 47), .ref (ad 48), .ref (ad 49), .int (σ.1 43 8), .int (σ.1 43 9), .ref (ad 50), .ref (ad 51), .int (σ.1 43 12), .ref (ad 52), .ref (ad 53), .ref (ad 54), .ref (ad 55), .ref (ad 56), .int (σ.1 43 18), .ref (ad 57), .ref (ad 58), .ref (ad 59), .int (σ.1 43 22), .int (σ.1 43 23), .int (σ.1 43 24), .int (σ.1 43 25), .ref (ad 60), .int (σ.1 43 27), .ref (ad 61), .ref (ad 62), .ref (ad 63), .ref (ad 64), .int (σ.1 43 32), .int (σ.1 43 33), .ref (ad 65)] 0 (.int x)) := rfl
theorem peX10_1 {ad : Nat → Nat} {ty : Nat → ClassId} {σ : Dz} {x : Int32} : ez ad ty (sz_i σ 43 1 x) 43 = .inr (9, List.set [.int (σ.1 43 0), .int (σ.1 43 1), .ref (ad 44), .ref (ad 45), .ref (ad 46), .ref (ad 47), .ref (ad 48), .ref (ad 49), .int (σ.1 43 8), .int (σ.1 43 9), .ref (ad 50), .ref (ad 51), .int (σ.1 43 12), .ref (ad 52), .ref (ad 53), .ref (ad 54), .ref (ad 55), .ref (ad 56), .int (σ.1 43 18), .ref (ad 57), .ref (ad 58), .ref (ad 59), .int (σ.1 43 22), .int (σ.1 43 23), .int (σ.1 43 24), .int (σ.1 43 25), .ref (ad 60), .int (σ.1 43 27), .ref (ad 61), .ref (ad 62), .ref (ad 63), .ref (ad 64), .int (σ.1 43 32), .int (σ.1 43 33), .ref (ad 65)] 1 (.int x)) := rfl
theorem peX10_8 {ad : Nat → Nat} {ty : Nat → ClassId} {σ : Dz} {x : Int32} : ez ad ty (sz_i σ 43 8 x) 43 = .inr (9, List.set [.int (σ.1 43 0), .int (σ.1 43 1), .ref (ad 44), .ref (ad 45), .ref (ad 46), .ref (ad 47), .ref (ad 48), .ref (ad 49), .int (σ.1 43 8), .int (σ.1 43 9), .ref (ad 50), .ref (ad 51), .int (σ.1 43 12), .ref (ad 52), .ref (ad 53), .ref (ad 54), .ref (ad 55), .ref (ad 56), .int (σ.1 43 18), .ref (ad 57), .ref (ad 58), .ref (ad 59), .int (σ.1 43 22), .int (σ.1 43 23), .int (σ.1 43 24), .int (σ.1 43 25), .ref (ad 60), .int (σ.1 43 27), .ref (ad 61), .ref (ad 62), .ref (ad 63), .ref (ad 64), .int (σ.1 43 32), .int (σ.1 43 33), .ref (ad 65)] 8 (.int x)) := rfl
theorem peX10_9 {ad : Nat → Nat} {ty : Nat → ClassId} {σ : Dz} {x : Int32} : ez ad ty (sz_i σ 43 9 x) 43 = .inr (9, List.set [.int (σ.1 43 0), .int (σ.1 43 1), .ref (ad 44), .ref (ad 45), .ref (ad 46), .ref (ad 47), .ref (ad 48), .ref (ad 49), .int (σ.1 43 8), .int (σ.1 43 9), .ref (ad 50), .ref (ad 51), .int (σ.1 43 12), .ref (ad 52), .ref (ad 53), .ref (ad 54), .ref (ad 55), .ref (ad 56), .int (σ.1 43 18), .ref (ad 57), .ref (ad 58), .ref (ad 59), .int (σ.1 43 22), .int (σ.1 43 23), .int (σ.1 43 24), .int (σ.1 43 25), .ref (ad 60), .int (σ.1 43 27), .ref (ad 61), .ref (ad 62), .ref (ad 63), .ref (ad 64), .int (σ.1 43 32), .int (σ.1 43 33), .ref (ad 65)] 9 (.int x)) := rfl
theorem peX10_12 {ad : Nat → Nat} {ty : Nat → ClassId} {σ : Dz} {x : Int32} : ez ad ty (sz_i σ 43 12 x) 43 = .inr (9, List.set [.int (σ.1 43 0), .int (σ.1 43 1), .ref (ad 44), .ref (ad 45), .ref (ad 46), .ref (ad 47), .ref (ad 48), .ref (ad 49), .int (σ.1 43 8), .int (σ.1 43 9), .ref (ad 50), .ref (ad 51), .int (σ.1 43 12), .ref (ad 52), .ref (ad 53), .ref (ad 54), .ref (ad 55), .ref (ad 56), .int (σ.1 43 18), .ref (ad 57), .ref (ad 58), .ref (ad 59), .int (σ.1 43 22), .int (σ.1 43 23), .int (σ.1 43 24), .int (σ.1 43 25), .ref (ad 60), .int (σ.1 43 27), .ref (ad 61), .ref (ad 62), .ref (ad 63), .ref (ad 64), .int (σ.1 43 32), .int (σ.1 43 33), .ref (ad 65)] 12 (.int x)) := rfl
theorem peX10_18 {ad : Nat → Nat} {ty : Nat → ClassId} {σ : Dz} {x : Int32} : ez ad ty (sz_i σ 43 18 x) 43 = .inr (9, List.set [.int (σ.1 43 0), .int (σ.1 43 1), .ref (ad 44), .ref (ad 45), .ref (ad 46), .ref (ad 47), .ref (ad 48), .ref (ad 49), .int (σ.1 43 8), .int (σ.1 43 9), .ref (ad 50), .ref (ad 51), .int (σ.1 43 12), .ref (ad 52), .ref (ad 53), .ref (ad 54), .ref (ad 55), .ref (ad 56), .int (σ.1 43 18), .ref (ad 57), .ref (ad 58), .ref (ad 59), .int (σ.1 43 22), .int (σ.1 43 23), .int (σ.1 43 24), .int (σ.1 43 25), .ref (ad 60), .int (σ.1 43 27), .ref (ad 61), .ref (ad 62), .ref (ad 63), .ref (ad 64), .int (σ.1 43 32), .int (σ.1 43 33), .ref (ad 65)] 18 (.int x)) := rfl
theorem peX10_22 {ad : Nat → Nat} {ty : Nat → ClassId} {σ : Dz} {x : Int32} : ez ad ty (sz_i σ 43 22 x) 43 = .inr (9, List.set [.int (σ.1 43 0), .int (σ.1 43 1), .ref (ad 44), .ref (ad 45), .ref (ad 46), .ref (ad 47), .ref (ad 48), .ref (ad 49), .int (σ.1 43 8), .int (σ.1 43 9), .ref (ad 50), .ref (ad 51), .int (σ.1 43 12), .ref (ad 52), .ref (ad 53), .ref (ad 54), .ref (ad 55), .ref (ad 56), .int (σ.1 43 18), .ref (ad 57), .ref (ad 58), .ref (ad 59), .int (σ.1 43 22), .int (σ.1 43 23), .int (σ.1 43 24), .int (σ.1 43 25), .ref (ad 60), .int (σ.1 43 27), .ref (ad 61), .ref (ad 62), .ref (ad 63), .ref (ad 64), .int (σ.1 43 32), .int (σ.1 43 33), .ref (ad 65)] 22 (.int x)) := rfl
theorem peX10_23 {ad : Nat → Nat} {ty : Nat → ClassId} {σ : Dz} {x : Int32} : ez ad ty (sz_i σ 43 23 x) 43 = .inr (9, List.set [.int (σ.1 43 0), .int (σ.1 43 1), .ref (ad 44), .ref (ad 45), .ref (ad 46), .ref (ad 47), .ref (ad 48), .ref (ad 49), .int (σ.1 43 8), .int (σ.1 43 9), .ref (ad 50), .ref (ad 51), .int (σ.1 43 12), .ref (ad 52), .ref (ad 53), .ref (ad 54), .ref (ad 55), .ref (ad 56), .int (σ.1 43 18), .ref (ad 57), .ref (ad 58), .ref (ad 59), .int (σ.1 43 22), .int (σ.1 43 23), .int (σ.1 43 24), .int (σ.1 43 25), .ref (ad 60), .int (σ.1 43 27), .ref (ad 61), .ref (ad 62), .ref (ad 63), .ref (ad 64), .int (σ.1 43 32), .int (σ.1 43 33), .ref (ad 65)] 23 (.int x)) := rfl
theorem peX10_24 {ad : Nat → Nat} {ty : Nat → ClassId} {σ : Dz} {x : Int32} : ez ad ty (sz_i σ 43 24 x) 43 = .inr (9, List.set [.int (σ.1 43 0), .int (σ.1 43 1), .ref (ad 44), .ref (ad 45), .ref (ad 46), .ref (ad 47), .ref (ad 48), .ref (ad 49), .int (σ.1 43 8), .int (σ.1 43 9), .ref (ad 50), .ref (ad 51), .int (σ.1 43 12), .ref (ad 52), .ref (ad 53), .ref (ad 54), .ref (ad 55), .ref (ad 56), .int (σ.1 43 18), .ref (ad 57), .ref (ad 58), .ref (ad 59), .int (σ.1 43 22), .int (σ.1 43 23), .int (σ.1 43 24), .int (σ.1 43 25), .ref (ad 60), .int (σ.1 43 27), .ref (ad 61), .ref (ad 62), .ref (ad 63), .ref (ad 64), .int (σ.1 43 32), .int (σ.1 43 33), .ref (ad 65)] 24 (.int x)) := rfl
theorem peX10_25 {ad : Nat → Nat} {ty : Nat → ClassId} {σ : Dz} {x : Int32} : ez ad ty (sz_i σ 43 25 x) 43 = .inr (9, List.set [.int (σ.1 43 0), .int (σ.1 43 1), .ref (ad 44), .ref (ad 45), .ref (ad 46), .ref (ad 47), .ref (ad 48), .ref (ad 49), .int (σ.1 43 8), .int (σ.1 43 9), .ref (ad 50), .ref (ad 51), .int (σ.1 43 12), .ref (ad 52), .ref (ad 53), .ref (ad 54), .ref (ad 55), .ref (ad 56), .int (σ.1 43 18), .ref (ad 57), .ref (ad 58), .ref (ad 59), .int (σ.1 43 22), .int (σ.1 43 23), .int (σ.1 43 24), .int (σ.1 43 25), .ref (ad 60), .int (σ.1 43 27), .ref (ad 61), .ref (ad 62), .ref (ad 63), .ref (ad 64), .int (σ.1 43 32), .int (σ.1 43 33), .ref (ad 65)] 25 (.int x)) := rfl
theorem peX10_27 {ad : Nat → Nat} {ty : Nat → ClassId} {σ : Dz} {x : Int32} : ez ad ty (sz_i σ 43 27 x) 43 = .inr (9, List.set [.int (σ.1 43 0), .int (σ.1 43 1), .ref (ad 44), .ref (ad 45), .ref (ad 46), .ref (ad 47), .ref (ad 48), .ref (ad 49), .int (σ.1 43 8), .int (σ.1 43 9), .ref (ad 50), .ref (ad 51), .int (σ.1 43 12), .ref (ad 52), .ref (ad 53), .ref (ad 54), .ref (ad 55), .ref (ad 56), .int (σ.1 43 18), .ref (ad 57), .ref (ad 58), .ref (ad 59), .int (σ.1 43 22), .int (σ.1 43 23), .int (σ.1 43 24), .int (σ.1 43 25), .ref (ad 60), .int (σ.1 43 27), .ref (ad 61), .ref (ad 62), .ref (ad 63), .ref (ad 64), .int (σ.1 43 32), .int (σ.1 43 33), .ref (ad 65)] 27 (.int x)) := rfl
theorem peX10_32 {ad : Nat → Nat} {ty : Nat → ClassId} {σ : Dz} {x : Int32} : ez ad ty (sz_i σ 43 32 x) 43 = .inr (9, List.set [.int (σ.1 43 0), .int (σ.1 43 1), .ref (ad 44), .ref (ad 45), .ref (ad 46), .ref (ad 47), .ref (ad 48), .ref (ad 49), .int (σ.1 43 8), .int (σ.1 43 9), .ref (ad 50), .ref (ad 51), .int (σ.1 43 12), .ref (ad 52), .ref (ad 53), .ref (ad 54), .ref (ad 55), .ref (ad 56), .int (σ.1 43 18), .ref (ad 57), .ref (ad 58), .ref (ad 59), .int (σ.1 43 22), .int (σ.1 43 23), .int (σ.1 43 24), .int (σ.1 43 25), .ref (ad 60), .int (σ.1 43 27), .ref (ad 61), .ref (ad 62), .ref (ad 63), .ref (ad 64), .int (σ.1 43 32), .int (σ.1 43 33), .ref (ad 65)] 32 (.int x)) := rfl
theorem peX10_33 {ad : Nat → Nat} {ty : Nat → ClassId} {σ : Dz} {x : Int32} : ez ad ty (sz_i σ 43 33 x) 43 = .inr (9, List.set [.int (σ.1 43 0), .int (σ.1 43 1), .ref (ad 44), .ref (ad 45), .ref (ad 46), .ref (ad 47), .ref (ad 48), .ref (ad 49), .int (σ.1 43 8), .int (σ.1 43 9), .ref (ad 50), .ref (ad 51), .int (σ.1 43 12), .ref (ad 52), .ref (ad 53), .ref (ad 54), .ref (ad 55), .ref (ad 56), .int (σ.1 43 18), .ref (ad 57), .ref (ad 58), .ref (ad 59), .int (σ.1 43 22), .int (σ.1 43 23), .int (σ.1 43 24), .int (σ.1 43 25), .ref (ad 60), .int (σ.1 43 27), .ref (ad 61), .ref (ad 62), .ref (ad 63), .ref (ad 64), .int (σ.1 43 32), .int (σ.1 43 33), .ref (ad 65)] 33 (.int x)) := rfl
theorem xa_T : ∀ w ∈ Bundle.throwableAtoms, vx_no w = true → zx_ok w := List.forall_mem_cons.mpr ⟨fun _ => Or.inl (zm1 11 rfl rfl), List.forall_mem_cons.mpr ⟨fun _ => Or.inl (zm2 153 rfl rfl), List.forall_mem_cons.mpr ⟨fun _ => Or.inl (zm2 162 rfl rfl), List.forall_mem_cons.mpr ⟨fun _ => Or.inl (zm2 169 rfl rfl), List.forall_mem_cons.mpr ⟨fun _ => Or.inl (zm2 172 rfl rfl), List.forall_mem_cons.mpr ⟨fun _ => Or.inl (zm2 174 rfl rfl), List.forall_mem_cons.mpr ⟨fun _ => Or.inl (zm2 154 rfl rfl), List.forall_mem_cons.mpr ⟨fun _ => Or.inl (zm2 155 rfl rfl), List.forall_mem_cons.mpr ⟨fun _ => Or.inl (zm1 30 rfl rfl), List.forall_mem_cons.mpr ⟨fun _ => Or.inl (zm1 31 rfl rfl), List.forall_mem_cons.mpr ⟨fun _ => Or.inl (zm2 156 rfl rfl), List.forall_mem_cons.mpr ⟨fun _ => Or.inl (zm2 161 rfl rfl), List.forall_mem_cons.mpr ⟨fun _ => Or.inl (zm2 170 rfl rfl), List.forall_mem_cons.mpr ⟨fun _ => Or.inl (zm2 190 rfl rfl), List.forall_mem_cons.mpr ⟨fun _ => Or.inl (zm2 143 rfl rfl), List.forall_mem_cons.mpr ⟨fun _ => Or.inl (zm2 191 rfl rfl), List.forall_mem_cons.mpr ⟨fun _ => Or.inl (zm2 145 rfl rfl), List.forall_mem_cons.mpr ⟨fun _ => Or.inl (zm2 192 rfl rfl), List.forall_mem_cons.mpr ⟨fun _ => Or.inl (zm2 147 rfl rfl), List.forall_mem_cons.mpr ⟨fun _ => Or.inl (zm2 157 rfl rfl), List.forall_mem_cons.mpr ⟨fun h => absurd h (by decide), List.forall_mem_cons.mpr ⟨fun _ => Or.inl (zm2 159 rfl rfl), List.forall_mem_cons.mpr ⟨fun h => absurd h (by decide), List.forall_mem_cons.mpr ⟨fun _ => Or.inl (zm2 149 rfl rfl), fun _ h => absurd h List.not_mem_nil⟩⟩⟩⟩⟩⟩⟩⟩⟩⟩⟩⟩⟩⟩⟩⟩⟩⟩⟩⟩⟩⟩⟩⟩
theorem xa_S : ∀ w ∈ Bundle.throwableSAtoms, vx_no w = true → zx_ok w := List.forall_mem_cons.mpr ⟨fun _ => Or.inl (zm2 186 rfl rfl), List.forall_mem_cons.mpr ⟨fun _ => Or.inl (zm2 187 rfl rfl), List.forall_mem_cons.mpr ⟨fun _ => Or.inl (zm2 189 rfl rfl), List.forall_mem_cons.mpr ⟨fun _ => Or.inl (zm2 149 rfl rfl), fun _ h => absurd h List.not_mem_nil⟩⟩⟩⟩
theorem xa_U : ∀ w ∈ zx_up, vx_no w = true → zx_ok w := List.forall_mem_cons.mpr ⟨fun _ => Or.inl (zm2 180 rfl rfl), List.forall_mem_cons.mpr ⟨fun _ => Or.inl (zm2 181 rfl rfl), List.forall_mem_cons.mpr ⟨fun _ => Or.inl (zm2 182 rfl rfl), List.forall_mem_cons.mpr ⟨fun _ => Or.inl (zm2 183 rfl rfl), List.forall_mem_cons.mpr ⟨fun _ => Or.inr (Or.inl ⟨_, List.mem_of_getElem? (l := zDc) (i := 3) rfl, rfl⟩), List.forall_mem_cons.mpr ⟨fun _ => Or.inl (zm2 183 rfl rfl), List.forall_mem_cons.mpr ⟨fun _ => Or.inl (zm2 184 rfl rfl), List.forall_mem_cons.mpr ⟨fun _ => Or.inl (zm2 185 rfl rfl), List.forall_mem_cons.mpr ⟨fun _ => Or.inl (zm2 186 rfl rfl), List.forall_mem_cons.mpr ⟨fun _ => Or.inr (Or.inl ⟨_, List.mem_of_getElem? (l := zDc) (i := 5) rfl, rfl⟩), fun _ h => absurd h List.not_mem_nil⟩⟩⟩⟩⟩⟩⟩⟩⟩⟩
theorem zq1_114 : Cond.fieldLink "PermutationPuzzle$CommutatorSearch" 9 "PermutationPuzzle$CommutatorSearch" "letters" "[I" ∈ zW := zm1 114 rfl rfl
theorem zq1_115 : Cond.fieldLink "PermutationPuzzle$CommutatorSearch" 15 "PermutationPuzzle$CommutatorSearch" "effects" "[I" ∈ zW := zm1 115 rfl rfl
theorem zq1_116 : Cond.fieldLink "PermutationPuzzle$CommutatorSearch" 18 "PermutationPuzzle$CommutatorSearch" "letterCount" "I" ∈ zW := zm1 116 rfl rfl
theorem zq1_117 : Cond.fieldLink "PermutationPuzzle$CommutatorSearch" 22 "PermutationPuzzle$CommutatorSearch" "foundU" "I" ∈ zW := zm1 117 rfl rfl
theorem zq1_118 : Cond.fieldLink "PermutationPuzzle$CommutatorSearch" 25 "PermutationPuzzle$CommutatorSearch" "foundV" "I" ∈ zW := zm1 118 rfl rfl
theorem zq1_136 : Cond.fieldLink "PermutationPuzzle$DepthTable" 9 "PermutationPuzzle$DepthTable" "levels" "[I" ∈ zW := zm1 136 rfl rfl
theorem zq1_137 : Cond.fieldLink "PermutationPuzzle$DepthTable" 15 "PermutationPuzzle$DepthTable" "arrangements" "[I" ∈ zW := zm1 137 rfl rfl
theorem zq1_138 : Cond.fieldLink "PermutationPuzzle$DepthTable" 18 "PermutationPuzzle$DepthTable" "levelStarts" "[I" ∈ zW := zm1 138 rfl rfl
theorem zq1_139 : Cond.fieldLink "PermutationPuzzle$DepthTable" 21 "PermutationPuzzle$DepthTable" "turns" "[I" ∈ zW := zm1 139 rfl rfl
theorem zq1_140 : Cond.fieldLink "PermutationPuzzle$DepthTable" 24 "PermutationPuzzle$DepthTable" "turnCount" "I" ∈ zW := zm1 140 rfl rfl
theorem zq1_141 : Cond.fieldLink "PermutationPuzzle$DepthTable" 28 "PermutationPuzzle$DepthTable" "size" "I" ∈ zW := zm1 141 rfl rfl
theorem zq1_142 : Cond.fieldLink "PermutationPuzzle$DepthTable" 31 "PermutationPuzzle$DepthTable" "lastLevel" "I" ∈ zW := zm1 142 rfl rfl
theorem zq1_166 : Cond.constant "PermutationPuzzle$Situation" 25 1754760 ∈ zW := zm1 166 rfl rfl
theorem zq1_172 : Cond.fieldLink "PermutationPuzzle$Word" 9 "PermutationPuzzle$Word" "letters" "[I" ∈ zW := zm1 172 rfl rfl
theorem zq1_173 : Cond.fieldLink "PermutationPuzzle$Word" 15 "PermutationPuzzle$Word" "length" "I" ∈ zW := zm1 173 rfl rfl
theorem zq1_180 : Cond.instanceMethod yX4_clear ∈ zW := zm1 180 rfl rfl
theorem zq1_181 : Cond.selects "PermutationPuzzle$Situation" yX4_clear yX4_clear ∈ zW := zm1 181 rfl rfl
theorem zq1_182 : Cond.code yX4_clear cX4_clear 2 none ∈ zW := zm1 182 rfl rfl
theorem zq1_183 : Cond.methodLink "PermutationPuzzle$Situation" 33 yX6_clear ∈ zW := zm1 183 rfl rfl
theorem zq1_184 : Cond.instanceMethod yX6_clear ∈ zW := zm1 184 rfl rfl
theorem zq1_185 : Cond.selects "PermutationPuzzle$Word" yX6_clear yX6_clear ∈ zW := zm1 185 rfl rfl
theorem zq1_186 : Cond.code yX6_clear cX6_clear 1 none ∈ zW := zm1 186 rfl rfl
theorem zq1_187 : Cond.fieldLink "PermutationPuzzle$Situation" 9 "PermutationPuzzle$Situation" "effects" "[I" ∈ zW := zm1 187 rfl rfl
theorem zq1_188 : Cond.fieldLink "PermutationPuzzle$Situation" 17 "PermutationPuzzle$Situation" "words" "[LPermutationPuzzle$Word;" ∈ zW := zm1 188 rfl rfl
theorem zq1_189 : Cond.fieldLink "PermutationPuzzle$Situation" 21 "PermutationPuzzle$Situation" "definedMoves" "I" ∈ zW := zm1 189 rfl rfl
theorem zq1_19 : Cond.initialized "PermutationPuzzle$Permutation" ∈ zW := zm1 19 rfl rfl
theorem zq1_190 : Cond.fieldLink "PermutationPuzzle$Situation" 26 "PermutationPuzzle$Situation" "places" "I" ∈ zW := zm1 190 rfl rfl
theorem zq1_2 : Cond.initialized "PermutationPuzzle$Text" ∈ zW := zm1 2 rfl rfl
theorem zq1_22 : Cond.initialized "java/lang/Integer" ∈ zW := zm1 22 rfl rfl
theorem zq1_3 : Cond.initialized "PermutationPuzzle$CycleReader" ∈ zW := zm1 3 rfl rfl
theorem zq1_38 : Cond.fieldLink "PermutationPuzzle$Text" 9 "PermutationPuzzle$Text" "characters" "[C" ∈ zW := zm1 38 rfl rfl
theorem zq1_39 : Cond.fieldLink "PermutationPuzzle$Text" 15 "PermutationPuzzle$Text" "length" "I" ∈ zW := zm1 39 rfl rfl
theorem zq1_4 : Cond.initialized "PermutationPuzzle$WordChecker" ∈ zW := zm1 4 rfl rfl
theorem zq1_5 : Cond.initialized "PermutationPuzzle$WordWriter" ∈ zW := zm1 5 rfl rfl
theorem zq1_52 : Cond.constant "PermutationPuzzle$CycleReader" 9 1754760 ∈ zW := zm1 52 rfl rfl
theorem zq1_53 : Cond.fieldLink "PermutationPuzzle$CycleReader" 10 "PermutationPuzzle$CycleReader" "effect" "I" ∈ zW := zm1 53 rfl rfl
theorem zq1_54 : Cond.fieldLink "PermutationPuzzle$CycleReader" 16 "PermutationPuzzle$CycleReader" "used" "I" ∈ zW := zm1 54 rfl rfl
theorem zq1_55 : Cond.fieldLink "PermutationPuzzle$CycleReader" 37 "PermutationPuzzle$CycleReader" "count" "I" ∈ zW := zm1 55 rfl rfl
theorem zq1_56 : Cond.fieldLink "PermutationPuzzle$CycleReader" 43 "PermutationPuzzle$CycleReader" "first" "I" ∈ zW := zm1 56 rfl rfl
theorem zq1_57 : Cond.fieldLink "PermutationPuzzle$CycleReader" 40 "PermutationPuzzle$CycleReader" "last" "I" ∈ zW := zm1 57 rfl rfl
theorem zq1_58 : Cond.fieldLink "PermutationPuzzle$CycleReader" 19 "PermutationPuzzle$CycleReader" "open" "Z" ∈ zW := zm1 58 rfl rfl
theorem zq1_6 : Cond.initialized "PermutationPuzzle$CommutatorSearch" ∈ zW := zm1 6 rfl rfl
theorem zq1_7 : Cond.initialized "PermutationPuzzle$DepthTable" ∈ zW := zm1 7 rfl rfl
theorem zq1_78 : Cond.fieldLink "PermutationPuzzle$WordChecker" 9 "PermutationPuzzle$WordChecker" "opened" "[C" ∈ zW := zm1 78 rfl rfl
theorem zq1_79 : Cond.fieldLink "PermutationPuzzle$WordChecker" 15 "PermutationPuzzle$WordChecker" "open" "I" ∈ zW := zm1 79 rfl rfl
theorem zq1_8 : Cond.initialized "PermutationPuzzle$Situation" ∈ zW := zm1 8 rfl rfl
theorem zq1_80 : Cond.fieldLink "PermutationPuzzle$WordChecker" 19 "PermutationPuzzle$WordChecker" "suffix" "I" ∈ zW := zm1 80 rfl rfl
theorem zq1_9 : Cond.initialized "PermutationPuzzle$Word" ∈ zW := zm1 9 rfl rfl
theorem zq1_94 : Cond.fieldLink "PermutationPuzzle$WordWriter" 9 "PermutationPuzzle$WordWriter" "starts" "[I" ∈ zW := zm1 94 rfl rfl
theorem zq1_95 : Cond.fieldLink "PermutationPuzzle$WordWriter" 15 "PermutationPuzzle$WordWriter" "middles" "[I" ∈ zW := zm1 95 rfl rfl
theorem zq1_96 : Cond.fieldLink "PermutationPuzzle$WordWriter" 23 "PermutationPuzzle$WordWriter" "open" "I" ∈ zW := zm1 96 rfl rfl
theorem zq1_97 : Cond.fieldLink "PermutationPuzzle$WordWriter" 27 "PermutationPuzzle$WordWriter" "lastElement" "I" ∈ zW := zm1 97 rfl rfl
theorem zq2_100 : Cond.instanceMethod yX6_copyFrom ∈ zW := zm2 100 rfl rfl
theorem zq2_101 : Cond.selects "PermutationPuzzle$Word" yX6_copyFrom yX6_copyFrom ∈ zW := zm2 101 rfl rfl
theorem zq2_102 : Cond.code yX6_copyFrom cX6_copyFrom 2 none ∈ zW := zm2 102 rfl rfl
theorem zq2_103 : Cond.methodLink "PermutationPuzzle$Word" 19 yX6_addAll ∈ zW := zm2 103 rfl rfl
theorem zq2_104 : Cond.instanceMethod yX6_addAll ∈ zW := zm2 104 rfl rfl
theorem zq2_105 : Cond.selects "PermutationPuzzle$Word" yX6_addAll yX6_addAll ∈ zW := zm2 105 rfl rfl
theorem zq2_106 : Cond.code yX6_addAll cX6_addAll 2 (some .boolean) ∈ zW := zm2 106 rfl rfl
theorem zq2_107 : Cond.methodLink "PermutationPuzzle$Word" 23 yX6_length ∈ zW := zm2 107 rfl rfl
theorem zq2_108 : Cond.instanceMethod yX6_length ∈ zW := zm2 108 rfl rfl
theorem zq2_109 : Cond.selects "PermutationPuzzle$Word" yX6_length yX6_length ∈ zW := zm2 109 rfl rfl
theorem zq2_110 : Cond.code yX6_length cX6_length 1 (some .int) ∈ zW := zm2 110 rfl rfl
theorem zq2_111 : Cond.methodLink "PermutationPuzzle$Word" 26 yX6_addPart ∈ zW := zm2 111 rfl rfl
theorem zq2_113 : Cond.instanceMethod yX6_addPart ∈ zW := zm2 113 rfl rfl
theorem zq2_114 : Cond.code yX6_addPart cX6_addPart 6 (some .boolean) ∈ zW := zm2 114 rfl rfl
theorem zq2_115 : Cond.methodLink "PermutationPuzzle$Word" 33 yX6_at ∈ zW := zm2 115 rfl rfl
theorem zq2_116 : Cond.instanceMethod yX6_at ∈ zW := zm2 116 rfl rfl
theorem zq2_117 : Cond.selects "PermutationPuzzle$Word" yX6_at yX6_at ∈ zW := zm2 117 rfl rfl
theorem zq2_118 : Cond.code yX6_at cX6_at 2 (some .int) ∈ zW := zm2 118 rfl rfl
theorem zq2_119 : Cond.methodLink "PermutationPuzzle$Word" 37 yX6_add ∈ zW := zm2 119 rfl rfl
theorem zq2_120 : Cond.instanceMethod yX6_add ∈ zW := zm2 120 rfl rfl
theorem zq2_121 : Cond.selects "PermutationPuzzle$Word" yX6_add yX6_add ∈ zW := zm2 121 rfl rfl
theorem zq2_122 : Cond.code yX6_add cX6_add 2 (some .boolean) ∈ zW := zm2 122 rfl rfl
theorem zq2_213 : Cond.instanceMethod yX5_add ∈ zW := zm2 213 rfl rfl
theorem zq2_214 : Cond.selects "PermutationPuzzle$Text" yX5_add yX5_add ∈ zW := zm2 214 rfl rfl
theorem zq2_215 : Cond.code yX5_add cX5_add 2 (some .boolean) ∈ zW := zm2 215 rfl rfl
theorem zq2_23 : Cond.instanceMethod yX2_build ∈ zW := zm2 23 rfl rfl
theorem zq2_233 : Cond.instanceMethod yX5_length ∈ zW := zm2 233 rfl rfl
theorem zq2_234 : Cond.selects "PermutationPuzzle$Text" yX5_length yX5_length ∈ zW := zm2 234 rfl rfl
theorem zq2_235 : Cond.code yX5_length cX5_length 1 (some .int) ∈ zW := zm2 235 rfl rfl
theorem zq2_24 : Cond.selects "PermutationPuzzle$DepthTable" yX2_build yX2_build ∈ zW := zm2 24 rfl rfl
theorem zq2_25 : Cond.code yX2_build cX2_build 9 none ∈ zW := zm2 25 rfl rfl
theorem zq2_26 : Cond.methodLink "PermutationPuzzle$DepthTable" 34 yX2_listTurns ∈ zW := zm2 26 rfl rfl
theorem zq2_28 : Cond.instanceMethod yX2_listTurns ∈ zW := zm2 28 rfl rfl
theorem zq2_29 : Cond.code yX2_listTurns cX2_listTurns 4 none ∈ zW := zm2 29 rfl rfl
theorem zq2_30 : Cond.methodLink "PermutationPuzzle$DepthTable" 59 yX4_effectOfLetter ∈ zW := zm2 30 rfl rfl
theorem zq2_31 : Cond.instanceMethod yX4_effectOfLetter ∈ zW := zm2 31 rfl rfl
theorem zq2_32 : Cond.selects "PermutationPuzzle$Situation" yX4_effectOfLetter yX4_effectOfLetter ∈ zW := zm2 32 rfl rfl
theorem zq2_33 : Cond.code yX4_effectOfLetter cX4_effectOfLetter 2 (some .int) ∈ zW := zm2 33 rfl rfl
theorem zq2_34 : Cond.constant "PermutationPuzzle$DepthTable" 42 1754760 ∈ zW := zm2 34 rfl rfl
theorem zq2_35 : Cond.methodLink "PermutationPuzzle$DepthTable" 64 yX2_isListed ∈ zW := zm2 35 rfl rfl
theorem zq2_37 : Cond.instanceMethod yX2_isListed ∈ zW := zm2 37 rfl rfl
theorem zq2_38 : Cond.code yX2_isListed cX2_isListed 3 (some .boolean) ∈ zW := zm2 38 rfl rfl
theorem zq2_39 : Cond.methodLink "PermutationPuzzle$DepthTable" 38 yX2_clear ∈ zW := zm2 39 rfl rfl
theorem zq2_41 : Cond.instanceMethod yX2_clear ∈ zW := zm2 41 rfl rfl
theorem zq2_42 : Cond.code yX2_clear cX2_clear 4 (some .int) ∈ zW := zm2 42 rfl rfl
theorem zq2_43 : Cond.methodLink "PermutationPuzzle$DepthTable" 43 yX2_reach ∈ zW := zm2 43 rfl rfl
theorem zq2_45 : Cond.instanceMethod yX2_reach ∈ zW := zm2 45 rfl rfl
theorem zq2_46 : Cond.code yX2_reach cX2_reach 4 none ∈ zW := zm2 46 rfl rfl
theorem zq2_47 : Cond.methodLink "PermutationPuzzle$DepthTable" 53 yX3_rankOf ∈ zW := zm2 47 rfl rfl
theorem zq2_48 : Cond.static yX3_rankOf ∈ zW := zm2 48 rfl rfl
theorem zq2_49 : Cond.code yX3_rankOf cX3_rankOf 6 (some .int) ∈ zW := zm2 49 rfl rfl
theorem zq2_50 : Cond.methodLink "PermutationPuzzle$Permutation" 11 yX3_imageOf ∈ zW := zm2 50 rfl rfl
theorem zq2_51 : Cond.static yX3_imageOf ∈ zW := zm2 51 rfl rfl
theorem zq2_52 : Cond.code yX3_imageOf cX3_imageOf 2 (some .int) ∈ zW := zm2 52 rfl rfl
theorem zq2_53 : Cond.methodLink "PermutationPuzzle$Permutation" 19 yJ6_bitCount_0f7a4 ∈ zW := zm2 53 rfl rfl
theorem zq2_54 : Cond.static yJ6_bitCount_0f7a4 ∈ zW := zm2 54 rfl rfl
theorem zq2_55 : Cond.code yJ6_bitCount_0f7a4 cJ6_bitCount_0f7a4 1 (some .int) ∈ zW := zm2 55 rfl rfl
theorem zq2_56 : Cond.constant "java/lang/Integer" 265 1431655765 ∈ zW := zm2 56 rfl rfl
theorem zq2_57 : Cond.constant "java/lang/Integer" 266 858993459 ∈ zW := zm2 57 rfl rfl
theorem zq2_58 : Cond.constant "java/lang/Integer" 267 252645135 ∈ zW := zm2 58 rfl rfl
theorem zq2_59 : Cond.methodLink "PermutationPuzzle$DepthTable" 47 yX3_then ∈ zW := zm2 59 rfl rfl
theorem zq2_60 : Cond.static yX3_then ∈ zW := zm2 60 rfl rfl
theorem zq2_61 : Cond.code yX3_then cX3_then 4 (some .int) ∈ zW := zm2 61 rfl rfl
theorem zq2_63 : Cond.instanceMethod yX2_sizeOfLevel ∈ zW := zm2 63 rfl rfl
theorem zq2_64 : Cond.selects "PermutationPuzzle$DepthTable" yX2_sizeOfLevel yX2_sizeOfLevel ∈ zW := zm2 64 rfl rfl
theorem zq2_65 : Cond.code yX2_sizeOfLevel cX2_sizeOfLevel 2 (some .int) ∈ zW := zm2 65 rfl rfl
theorem zq2_71 : Cond.instanceMethod yX2_size ∈ zW := zm2 71 rfl rfl
theorem zq2_72 : Cond.selects "PermutationPuzzle$DepthTable" yX2_size yX2_size ∈ zW := zm2 72 rfl rfl
theorem zq2_73 : Cond.code yX2_size cX2_size 1 (some .int) ∈ zW := zm2 73 rfl rfl
theorem zq2_79 : Cond.instanceMethod yX2_lastLevel ∈ zW := zm2 79 rfl rfl
theorem zq2_80 : Cond.selects "PermutationPuzzle$DepthTable" yX2_lastLevel yX2_lastLevel ∈ zW := zm2 80 rfl rfl
theorem zq2_81 : Cond.code yX2_lastLevel cX2_lastLevel 1 (some .int) ∈ zW := zm2 81 rfl rfl
theorem zq2_87 : Cond.instanceMethod yX2_sumOfDepths ∈ zW := zm2 87 rfl rfl
theorem zq2_88 : Cond.selects "PermutationPuzzle$DepthTable" yX2_sumOfDepths yX2_sumOfDepths ∈ zW := zm2 88 rfl rfl
theorem zq2_89 : Cond.code yX2_sumOfDepths cX2_sumOfDepths 3 (some .int) ∈ zW := zm2 89 rfl rfl
theorem zq2_90 : Cond.methodLink "PermutationPuzzle$DepthTable" 56 yX2_sizeOfLevel ∈ zW := zm2 90 rfl rfl
theorem zq2_96 : Cond.instanceMethod yX4_copyFrom ∈ zW := zm2 96 rfl rfl
theorem zq2_97 : Cond.selects "PermutationPuzzle$Situation" yX4_copyFrom yX4_copyFrom ∈ zW := zm2 97 rfl rfl
theorem zq2_98 : Cond.code yX4_copyFrom cX4_copyFrom 3 none ∈ zW := zm2 98 rfl rfl
theorem zq2_99 : Cond.methodLink "PermutationPuzzle$Situation" 34 yX6_copyFrom ∈ zW := zm2 99 rfl rfl
theorem zq3_109 : Cond.instanceMethod yX7_errorIn ∈ zW := zm3 109 rfl rfl
theorem zq3_110 : Cond.selects "PermutationPuzzle$WordChecker" yX7_errorIn yX7_errorIn ∈ zW := zm3 110 rfl rfl
theorem zq3_111 : Cond.code yX7_errorIn cX7_errorIn 3 (some .int) ∈ zW := zm3 111 rfl rfl
theorem zq3_112 : Cond.methodLink "PermutationPuzzle$WordChecker" 22 yX5_length ∈ zW := zm3 112 rfl rfl
theorem zq3_113 : Cond.methodLink "PermutationPuzzle$WordChecker" 28 yX5_at ∈ zW := zm3 113 rfl rfl
theorem zq3_114 : Cond.methodLink "PermutationPuzzle$WordChecker" 32 yX7_accepts ∈ zW := zm3 114 rfl rfl
theorem zq3_116 : Cond.instanceMethod yX7_accepts ∈ zW := zm3 116 rfl rfl
theorem zq3_117 : Cond.code yX7_accepts cX7_accepts 3 (some .boolean) ∈ zW := zm3 117 rfl rfl
theorem zq3_118 : Cond.methodLink "PermutationPuzzle$WordChecker" 36 yX5_isName ∈ zW := zm3 118 rfl rfl
theorem zq3_119 : Cond.static yX5_isName ∈ zW := zm3 119 rfl rfl
theorem zq3_120 : Cond.code yX5_isName cX5_isName 1 (some .boolean) ∈ zW := zm3 120 rfl rfl
theorem zq3_121 : Cond.methodLink "PermutationPuzzle$WordChecker" 39 yX7_begins ∈ zW := zm3 121 rfl rfl
theorem zq3_123 : Cond.instanceMethod yX7_begins ∈ zW := zm3 123 rfl rfl
theorem zq3_124 : Cond.code yX7_begins cX7_begins 2 (some .boolean) ∈ zW := zm3 124 rfl rfl
theorem zq3_125 : Cond.methodLink "PermutationPuzzle$WordChecker" 42 yX7_ends ∈ zW := zm3 125 rfl rfl
theorem zq3_127 : Cond.instanceMethod yX7_ends ∈ zW := zm3 127 rfl rfl
theorem zq3_128 : Cond.code yX7_ends cX7_ends 2 (some .boolean) ∈ zW := zm3 128 rfl rfl
theorem zq3_130 : Cond.instanceMethod yX4_definesNamesIn ∈ zW := zm3 130 rfl rfl
theorem zq3_131 : Cond.selects "PermutationPuzzle$Situation" yX4_definesNamesIn yX4_definesNamesIn ∈ zW := zm3 131 rfl rfl
theorem zq3_132 : Cond.code yX4_definesNamesIn cX4_definesNamesIn 4 (some .boolean) ∈ zW := zm3 132 rfl rfl
theorem zq3_133 : Cond.methodLink "PermutationPuzzle$Situation" 44 yX5_length ∈ zW := zm3 133 rfl rfl
theorem zq3_134 : Cond.methodLink "PermutationPuzzle$Situation" 50 yX5_at ∈ zW := zm3 134 rfl rfl
theorem zq3_135 : Cond.methodLink "PermutationPuzzle$Situation" 54 yX5_isName ∈ zW := zm3 135 rfl rfl
theorem zq3_136 : Cond.methodLink "PermutationPuzzle$Situation" 58 yX4_isDefined ∈ zW := zm3 136 rfl rfl
theorem zq3_137 : Cond.instanceMethod yX4_isDefined ∈ zW := zm3 137 rfl rfl
theorem zq3_138 : Cond.selects "PermutationPuzzle$Situation" yX4_isDefined yX4_isDefined ∈ zW := zm3 138 rfl rfl
theorem zq3_139 : Cond.code yX4_isDefined cX4_isDefined 2 (some .boolean) ∈ zW := zm3 139 rfl rfl
theorem zq3_141 : Cond.instanceMethod yX8_write ∈ zW := zm3 141 rfl rfl
theorem zq3_142 : Cond.selects "PermutationPuzzle$WordWriter" yX8_write yX8_write ∈ zW := zm3 142 rfl rfl
theorem zq3_143 : Cond.code yX8_write cX8_write 5 (some .boolean) ∈ zW := zm3 143 rfl rfl
theorem zq3_144 : Cond.methodLink "PermutationPuzzle$WordWriter" 18 yX6_clear ∈ zW := zm3 144 rfl rfl
theorem zq3_145 : Cond.methodLink "PermutationPuzzle$WordWriter" 30 yX5_length ∈ zW := zm3 145 rfl rfl
theorem zq3_146 : Cond.methodLink "PermutationPuzzle$WordWriter" 36 yX5_at ∈ zW := zm3 146 rfl rfl
theorem zq3_147 : Cond.methodLink "PermutationPuzzle$WordWriter" 40 yX8_writeNext ∈ zW := zm3 147 rfl rfl
theorem zq3_149 : Cond.instanceMethod yX8_writeNext ∈ zW := zm3 149 rfl rfl
theorem zq3_150 : Cond.code yX8_writeNext cX8_writeNext 3 (some .boolean) ∈ zW := zm3 150 rfl rfl
theorem zq3_151 : Cond.methodLink "PermutationPuzzle$WordWriter" 44 yX5_isName ∈ zW := zm3 151 rfl rfl
theorem zq3_152 : Cond.methodLink "PermutationPuzzle$WordWriter" 48 yX6_length ∈ zW := zm3 152 rfl rfl
theorem zq3_153 : Cond.methodLink "PermutationPuzzle$WordWriter" 49 yX6_add ∈ zW := zm3 153 rfl rfl
theorem zq3_154 : Cond.methodLink "PermutationPuzzle$WordWriter" 53 yX8_begin ∈ zW := zm3 154 rfl rfl
theorem zq3_156 : Cond.instanceMethod yX8_begin ∈ zW := zm3 156 rfl rfl
theorem zq3_157 : Cond.code yX8_begin cX8_begin 2 (some .boolean) ∈ zW := zm3 157 rfl rfl
theorem zq3_158 : Cond.methodLink "PermutationPuzzle$WordWriter" 56 yX8_divide ∈ zW := zm3 158 rfl rfl
theorem zq3_160 : Cond.instanceMethod yX8_divide ∈ zW := zm3 160 rfl rfl
theorem zq3_161 : Cond.code yX8_divide cX8_divide 2 (some .boolean) ∈ zW := zm3 161 rfl rfl
theorem zq3_162 : Cond.methodLink "PermutationPuzzle$WordWriter" 59 yX8_end ∈ zW := zm3 162 rfl rfl
theorem zq3_164 : Cond.instanceMethod yX8_end ∈ zW := zm3 164 rfl rfl
theorem zq3_165 : Cond.code yX8_end cX8_end 3 (some .boolean) ∈ zW := zm3 165 rfl rfl
theorem zq3_166 : Cond.methodLink "PermutationPuzzle$WordWriter" 71 yX6_closeCommutator ∈ zW := zm3 166 rfl rfl
theorem zq3_167 : Cond.instanceMethod yX6_closeCommutator ∈ zW := zm3 167 rfl rfl
theorem zq3_168 : Cond.selects "PermutationPuzzle$Word" yX6_closeCommutator yX6_closeCommutator ∈ zW := zm3 168 rfl rfl
theorem zq3_169 : Cond.code yX6_closeCommutator cX6_closeCommutator 4 (some .boolean) ∈ zW := zm3 169 rfl rfl
theorem zq3_170 : Cond.methodLink "PermutationPuzzle$Word" 30 yX6_addInverseOfPart ∈ zW := zm3 170 rfl rfl
theorem zq3_172 : Cond.instanceMethod yX6_addInverseOfPart ∈ zW := zm3 172 rfl rfl
theorem zq3_173 : Cond.code yX6_addInverseOfPart cX6_addInverseOfPart 6 (some .boolean) ∈ zW := zm3 173 rfl rfl
theorem zq3_174 : Cond.methodLink "PermutationPuzzle$WordWriter" 63 yX6_invertFrom ∈ zW := zm3 174 rfl rfl
theorem zq3_175 : Cond.instanceMethod yX6_invertFrom ∈ zW := zm3 175 rfl rfl
theorem zq3_176 : Cond.selects "PermutationPuzzle$Word" yX6_invertFrom yX6_invertFrom ∈ zW := zm3 176 rfl rfl
theorem zq3_177 : Cond.code yX6_invertFrom cX6_invertFrom 5 none ∈ zW := zm3 177 rfl rfl
theorem zq3_178 : Cond.methodLink "PermutationPuzzle$WordWriter" 67 yX6_repeatFrom ∈ zW := zm3 178 rfl rfl
theorem zq3_179 : Cond.instanceMethod yX6_repeatFrom ∈ zW := zm3 179 rfl rfl
theorem zq3_180 : Cond.selects "PermutationPuzzle$Word" yX6_repeatFrom yX6_repeatFrom ∈ zW := zm3 180 rfl rfl
theorem zq3_181 : Cond.code yX6_repeatFrom cX6_repeatFrom 6 (some .boolean) ∈ zW := zm3 181 rfl rfl
theorem zq3_192 : Cond.instanceMethod yX4_word ∈ zW := zm3 192 rfl rfl
theorem zq3_193 : Cond.selects "PermutationPuzzle$Situation" yX4_word yX4_word ∈ zW := zm3 193 rfl rfl
theorem zq3_194 : Cond.code yX4_word cX4_word 2 (some (.object "PermutationPuzzle$Word")) ∈ zW := zm3 194 rfl rfl
theorem zq3_44 : Cond.instanceMethod yX1_errorIn ∈ zW := zm3 44 rfl rfl
theorem zq3_45 : Cond.selects "PermutationPuzzle$CycleReader" yX1_errorIn yX1_errorIn ∈ zW := zm3 45 rfl rfl
theorem zq3_46 : Cond.code yX1_errorIn cX1_errorIn 4 (some .int) ∈ zW := zm3 46 rfl rfl
theorem zq3_47 : Cond.methodLink "PermutationPuzzle$CycleReader" 23 yX5_length ∈ zW := zm3 47 rfl rfl
theorem zq3_48 : Cond.methodLink "PermutationPuzzle$CycleReader" 29 yX5_at ∈ zW := zm3 48 rfl rfl
theorem zq3_49 : Cond.instanceMethod yX5_at ∈ zW := zm3 49 rfl rfl
theorem zq3_50 : Cond.selects "PermutationPuzzle$Text" yX5_at yX5_at ∈ zW := zm3 50 rfl rfl
theorem zq3_51 : Cond.code yX5_at cX5_at 2 (some .char) ∈ zW := zm3 51 rfl rfl
theorem zq3_52 : Cond.methodLink "PermutationPuzzle$CycleReader" 33 yX1_accepts ∈ zW := zm3 52 rfl rfl
theorem zq3_54 : Cond.instanceMethod yX1_accepts ∈ zW := zm3 54 rfl rfl
theorem zq3_55 : Cond.code yX1_accepts cX1_accepts 3 (some .boolean) ∈ zW := zm3 55 rfl rfl
theorem zq3_56 : Cond.methodLink "PermutationPuzzle$CycleReader" 46 yX3_withImage ∈ zW := zm3 56 rfl rfl
theorem zq3_57 : Cond.static yX3_withImage ∈ zW := zm3 57 rfl rfl
theorem zq3_58 : Cond.code yX3_withImage cX3_withImage 3 (some .int) ∈ zW := zm3 58 rfl rfl
theorem zq3_59 : Cond.methodLink "PermutationPuzzle$CycleReader" 52 yX1_acceptsPosition ∈ zW := zm3 59 rfl rfl
theorem zq3_61 : Cond.instanceMethod yX1_acceptsPosition ∈ zW := zm3 61 rfl rfl
theorem zq3_62 : Cond.code yX1_acceptsPosition cX1_acceptsPosition 3 (some .boolean) ∈ zW := zm3 62 rfl rfl
theorem zq3_64 : Cond.instanceMethod yX5_clear ∈ zW := zm3 64 rfl rfl
theorem zq3_65 : Cond.selects "PermutationPuzzle$Text" yX5_clear yX5_clear ∈ zW := zm3 65 rfl rfl
theorem zq3_66 : Cond.code yX5_clear cX5_clear 1 none ∈ zW := zm3 66 rfl rfl
theorem zq3_69 : Cond.instanceMethod yX1_effect ∈ zW := zm3 69 rfl rfl
theorem zq3_70 : Cond.selects "PermutationPuzzle$CycleReader" yX1_effect yX1_effect ∈ zW := zm3 70 rfl rfl
theorem zq3_71 : Cond.code yX1_effect cX1_effect 1 (some .int) ∈ zW := zm3 71 rfl rfl
theorem zq3_73 : Cond.instanceMethod yX4_defineMove ∈ zW := zm3 73 rfl rfl
theorem zq3_74 : Cond.selects "PermutationPuzzle$Situation" yX4_defineMove yX4_defineMove ∈ zW := zm3 74 rfl rfl
theorem zq3_75 : Cond.code yX4_defineMove cX4_defineMove 3 none ∈ zW := zm3 75 rfl rfl
theorem zq3_76 : Cond.methodLink "PermutationPuzzle$Situation" 38 yX3_inverseOf ∈ zW := zm3 76 rfl rfl
theorem zq3_77 : Cond.static yX3_inverseOf ∈ zW := zm3 77 rfl rfl
theorem zq3_78 : Cond.code yX3_inverseOf cX3_inverseOf 3 (some .int) ∈ zW := zm3 78 rfl rfl
theorem zq3_81 : Cond.static yX3_differences ∈ zW := zm3 81 rfl rfl
theorem zq3_82 : Cond.code yX3_differences cX3_differences 4 (some .int) ∈ zW := zm3 82 rfl rfl
theorem zq4_100 : Cond.instanceMethod yX4_places ∈ zW := zm4 100 rfl rfl
theorem zq4_101 : Cond.selects "PermutationPuzzle$Situation" yX4_places yX4_places ∈ zW := zm4 101 rfl rfl
theorem zq4_102 : Cond.code yX4_places cX4_places 1 (some .int) ∈ zW := zm4 102 rfl rfl
theorem zq4_108 : Cond.instanceMethod yX4_arrange ∈ zW := zm4 108 rfl rfl
theorem zq4_109 : Cond.selects "PermutationPuzzle$Situation" yX4_arrange yX4_arrange ∈ zW := zm4 109 rfl rfl
theorem zq4_110 : Cond.code yX4_arrange cX4_arrange 2 none ∈ zW := zm4 110 rfl rfl
theorem zq4_142 : Cond.instanceMethod yX2_levelOf ∈ zW := zm4 142 rfl rfl
theorem zq4_143 : Cond.selects "PermutationPuzzle$DepthTable" yX2_levelOf yX2_levelOf ∈ zW := zm4 143 rfl rfl
theorem zq4_144 : Cond.code yX2_levelOf cX2_levelOf 3 (some .int) ∈ zW := zm4 144 rfl rfl
theorem zq4_166 : Cond.instanceMethod yX4_spread ∈ zW := zm4 166 rfl rfl
theorem zq4_167 : Cond.selects "PermutationPuzzle$Situation" yX4_spread yX4_spread ∈ zW := zm4 167 rfl rfl
theorem zq4_168 : Cond.code yX4_spread cX4_spread 5 (some .int) ∈ zW := zm4 168 rfl rfl
theorem zq4_169 : Cond.methodLink "PermutationPuzzle$Situation" 76 yX3_imageOf ∈ zW := zm4 169 rfl rfl
theorem zq4_178 : Cond.instanceMethod yX0_find ∈ zW := zm4 178 rfl rfl
theorem zq4_179 : Cond.selects "PermutationPuzzle$CommutatorSearch" yX0_find yX0_find ∈ zW := zm4 179 rfl rfl
theorem zq4_180 : Cond.code yX0_find cX0_find 6 (some .boolean) ∈ zW := zm4 180 rfl rfl
theorem zq4_181 : Cond.methodLink "PermutationPuzzle$CommutatorSearch" 28 yX0_listWords ∈ zW := zm4 181 rfl rfl
theorem zq4_183 : Cond.instanceMethod yX0_listWords ∈ zW := zm4 183 rfl rfl
theorem zq4_184 : Cond.code yX0_listWords cX0_listWords 5 none ∈ zW := zm4 184 rfl rfl
theorem zq4_185 : Cond.methodLink "PermutationPuzzle$CommutatorSearch" 53 yX4_isDefined ∈ zW := zm4 185 rfl rfl
theorem zq4_186 : Cond.methodLink "PermutationPuzzle$CommutatorSearch" 59 yX4_effectOfLetter ∈ zW := zm4 186 rfl rfl
theorem zq4_187 : Cond.methodLink "PermutationPuzzle$CommutatorSearch" 63 yX3_then ∈ zW := zm4 187 rfl rfl
theorem zq4_188 : Cond.methodLink "PermutationPuzzle$CommutatorSearch" 32 yX0_findAmong ∈ zW := zm4 188 rfl rfl
theorem zq4_190 : Cond.instanceMethod yX0_findAmong ∈ zW := zm4 190 rfl rfl
theorem zq4_191 : Cond.code yX0_findAmong cX0_findAmong 6 (some .boolean) ∈ zW := zm4 191 rfl rfl
theorem zq4_192 : Cond.methodLink "PermutationPuzzle$CommutatorSearch" 69 yX0_startOf ∈ zW := zm4 192 rfl rfl
theorem zq4_194 : Cond.instanceMethod yX0_startOf ∈ zW := zm4 194 rfl rfl
theorem zq4_195 : Cond.code yX0_startOf cX0_startOf 2 (some .int) ∈ zW := zm4 195 rfl rfl
theorem zq4_196 : Cond.methodLink "PermutationPuzzle$CommutatorSearch" 72 yX0_movedBy ∈ zW := zm4 196 rfl rfl
theorem zq4_197 : Cond.static yX0_movedBy ∈ zW := zm4 197 rfl rfl
theorem zq4_198 : Cond.code yX0_movedBy cX0_movedBy 6 (some .int) ∈ zW := zm4 198 rfl rfl
theorem zq4_199 : Cond.methodLink "PermutationPuzzle$CommutatorSearch" 75 yX3_imageOf ∈ zW := zm4 199 rfl rfl
theorem zq4_200 : Cond.methodLink "PermutationPuzzle$CommutatorSearch" 36 yX6_clear ∈ zW := zm4 200 rfl rfl
theorem zq4_201 : Cond.methodLink "PermutationPuzzle$CommutatorSearch" 41 yX0_writeWord ∈ zW := zm4 201 rfl rfl
theorem zq4_203 : Cond.instanceMethod yX0_writeWord ∈ zW := zm4 203 rfl rfl
theorem zq4_204 : Cond.code yX0_writeWord cX0_writeWord 4 none ∈ zW := zm4 204 rfl rfl
theorem zq4_205 : Cond.methodLink "PermutationPuzzle$CommutatorSearch" 78 yX6_add ∈ zW := zm4 205 rfl rfl
theorem zq4_206 : Cond.methodLink "PermutationPuzzle$CommutatorSearch" 45 yX6_length ∈ zW := zm4 206 rfl rfl
theorem zq4_207 : Cond.methodLink "PermutationPuzzle$CommutatorSearch" 49 yX6_closeCommutator ∈ zW := zm4 207 rfl rfl
theorem zq4_22 : Cond.instanceMethod yX6_addInverseOf ∈ zW := zm4 22 rfl rfl
theorem zq4_23 : Cond.selects "PermutationPuzzle$Word" yX6_addInverseOf yX6_addInverseOf ∈ zW := zm4 23 rfl rfl
theorem zq4_24 : Cond.code yX6_addInverseOf cX6_addInverseOf 2 (some .boolean) ∈ zW := zm4 24 rfl rfl
theorem zq4_50 : Cond.instanceMethod yX4_effectOfWord ∈ zW := zm4 50 rfl rfl
theorem zq4_51 : Cond.selects "PermutationPuzzle$Situation" yX4_effectOfWord yX4_effectOfWord ∈ zW := zm4 51 rfl rfl
theorem zq4_52 : Cond.code yX4_effectOfWord cX4_effectOfWord 5 (some .int) ∈ zW := zm4 52 rfl rfl
theorem zq4_53 : Cond.methodLink "PermutationPuzzle$Situation" 62 yX4_word ∈ zW := zm4 53 rfl rfl
theorem zq4_54 : Cond.methodLink "PermutationPuzzle$Situation" 66 yX6_length ∈ zW := zm4 54 rfl rfl
theorem zq4_55 : Cond.methodLink "PermutationPuzzle$Situation" 67 yX6_at ∈ zW := zm4 55 rfl rfl
theorem zq4_56 : Cond.methodLink "PermutationPuzzle$Situation" 69 yX4_effectOfLetter ∈ zW := zm4 56 rfl rfl
theorem zq4_57 : Cond.methodLink "PermutationPuzzle$Situation" 72 yX3_then ∈ zW := zm4 57 rfl rfl
theorem zq4_59 : Cond.static yX3_orderOf ∈ zW := zm4 59 rfl rfl
theorem zq4_60 : Cond.code yX3_orderOf cX3_orderOf 3 (some .int) ∈ zW := zm4 60 rfl rfl
theorem zq4_61 : Cond.constant "PermutationPuzzle$Permutation" 15 1754760 ∈ zW := zm4 61 rfl rfl
theorem zq4_62 : Cond.methodLink "PermutationPuzzle$Permutation" 16 yX3_then ∈ zW := zm4 62 rfl rfl
theorem zq4_71 : Cond.static yX3_hasOddParity ∈ zW := zm4 71 rfl rfl
theorem zq4_72 : Cond.code yX3_hasOddParity cX3_hasOddParity 5 (some .boolean) ∈ zW := zm4 72 rfl rfl
theorem zq4_81 : Cond.static yX3_cycleOf ∈ zW := zm4 81 rfl rfl
theorem zq4_82 : Cond.code yX3_cycleOf cX3_cycleOf 4 (some .int) ∈ zW := zm4 82 rfl rfl
theorem zqp_1 : Cond.selects RX2 yX2_listTurns yX2_listTurns ∈ zW := zmp 1 rfl rfl
theorem zqp_10 : Cond.selects RX7 yX7_begins yX7_begins ∈ zW := zmp 10 rfl rfl
theorem zqp_11 : Cond.selects RX7 yX7_ends yX7_ends ∈ zW := zmp 11 rfl rfl
theorem zqp_12 : Cond.selects RX8 yX8_writeNext yX8_writeNext ∈ zW := zmp 12 rfl rfl
theorem zqp_13 : Cond.selects RX8 yX8_begin yX8_begin ∈ zW := zmp 13 rfl rfl
theorem zqp_14 : Cond.selects RX8 yX8_divide yX8_divide ∈ zW := zmp 14 rfl rfl
theorem zqp_15 : Cond.selects RX8 yX8_end yX8_end ∈ zW := zmp 15 rfl rfl
theorem zqp_16 : Cond.selects RX6 yX6_addInverseOfPart yX6_addInverseOfPart ∈ zW := zmp 16 rfl rfl
theorem zqp_2 : Cond.selects RX2 yX2_isListed yX2_isListed ∈ zW := zmp 2 rfl rfl
theorem zqp_22 : Cond.selects RX0 yX0_listWords yX0_listWords ∈ zW := zmp 22 rfl rfl
theorem zqp_23 : Cond.selects RX0 yX0_findAmong yX0_findAmong ∈ zW := zmp 23 rfl rfl
theorem zqp_24 : Cond.selects RX0 yX0_startOf yX0_startOf ∈ zW := zmp 24 rfl rfl
theorem zqp_25 : Cond.selects RX0 yX0_writeWord yX0_writeWord ∈ zW := zmp 25 rfl rfl
theorem zqp_3 : Cond.selects RX2 yX2_clear yX2_clear ∈ zW := zmp 3 rfl rfl
theorem zqp_4 : Cond.selects RX2 yX2_reach yX2_reach ∈ zW := zmp 4 rfl rfl
theorem zqp_5 : Cond.selects RX6 yX6_addPart yX6_addPart ∈ zW := zmp 5 rfl rfl
theorem zqp_7 : Cond.selects RX1 yX1_accepts yX1_accepts ∈ zW := zmp 7 rfl rfl
theorem zqp_8 : Cond.selects RX1 yX1_acceptsPosition yX1_acceptsPosition ∈ zW := zmp 8 rfl rfl
theorem zqp_9 : Cond.selects RX7 yX7_accepts yX7_accepts ∈ zW := zmp 9 rfl rfl
theorem cf_X4_isDefined : CfV yX4_isDefined cX4_isDefined 2 (some .boolean) RX4 1 := ⟨zq3_137, zq3_138, zq1_8, zq3_139, by decide +kernel⟩
theorem cf_X4_effectOfLetter : CfV yX4_effectOfLetter cX4_effectOfLetter 2 (some .int) RX4 1 := ⟨zq2_31, zq2_32, zq1_8, zq2_33, by decide +kernel⟩
theorem cf_X3_imageOf : CfS yX3_imageOf cX3_imageOf 2 (some .int) 2 := ⟨zq2_51, zq1_19, zq2_52, by decide +kernel⟩
theorem cf_X3_then : CfS yX3_then cX3_then 4 (some .int) 2 := ⟨zq2_60, zq1_19, zq2_61, by decide +kernel⟩
theorem cf_X0_listWords : CfV yX0_listWords cX0_listWords 5 none RX0 1 := ⟨zq4_183, zqp_22, zq1_6, zq4_184, by decide +kernel⟩
theorem cf_X0_startOf : CfV yX0_startOf cX0_startOf 2 (some .int) RX0 1 := ⟨zq4_194, zqp_24, zq1_6, zq4_195, by decide +kernel⟩
theorem cf_X0_movedBy : CfS yX0_movedBy cX0_movedBy 6 (some .int) 2 := ⟨zq4_197, zq1_6, zq4_198, by decide +kernel⟩
theorem cf_X0_findAmong : CfV yX0_findAmong cX0_findAmong 6 (some .boolean) RX0 3 := ⟨zq4_190, zqp_23, zq1_6, zq4_191, by decide +kernel⟩
theorem cf_X6_clear : CfV yX6_clear cX6_clear 1 none RX6 0 := ⟨zq1_184, zq1_185, zq1_9, zq1_186, by decide +kernel⟩
theorem cf_X6_add : CfV yX6_add cX6_add 2 (some .boolean) RX6 1 := ⟨zq2_120, zq2_121, zq1_9, zq2_122, by decide +kernel⟩
theorem cf_X0_writeWord : CfV yX0_writeWord cX0_writeWord 4 none RX0 2 := ⟨zq4_203, zqp_25, zq1_6, zq4_204, by decide +kernel⟩
theorem cf_X6_length : CfV yX6_length cX6_length 1 (some .int) RX6 0 := ⟨zq2_108, zq2_109, zq1_9, zq2_110, by decide +kernel⟩
theorem cf_X6_at : CfV yX6_at cX6_at 2 (some .int) RX6 1 := ⟨zq2_116, zq2_117, zq1_9, zq2_118, by decide +kernel⟩
theorem cf_X6_addInverseOfPart : CfV yX6_addInverseOfPart cX6_addInverseOfPart 6 (some .boolean) RX6 3 := ⟨zq3_172, zqp_16, zq1_9, zq3_173, by decide +kernel⟩
theorem cf_X6_closeCommutator : CfV yX6_closeCommutator cX6_closeCommutator 4 (some .boolean) RX6 2 := ⟨zq3_167, zq3_168, zq1_9, zq3_169, by decide +kernel⟩
theorem cf_X0_find : CfV yX0_find cX0_find 6 (some .boolean) RX0 3 := ⟨zq4_178, zq4_179, zq1_6, zq4_180, by decide +kernel⟩
theorem cf_X5_length : CfV yX5_length cX5_length 1 (some .int) RX5 0 := ⟨zq2_233, zq2_234, zq1_2, zq2_235, by decide +kernel⟩
theorem cf_X5_at : CfV yX5_at cX5_at 2 (some .char) RX5 1 := ⟨zq3_49, zq3_50, zq1_2, zq3_51, by decide +kernel⟩
theorem cf_X3_withImage : CfS yX3_withImage cX3_withImage 3 (some .int) 3 := ⟨zq3_57, zq1_19, zq3_58, by decide +kernel⟩
theorem cf_X1_acceptsPosition : CfV yX1_acceptsPosition cX1_acceptsPosition 3 (some .boolean) RX1 2 := ⟨zq3_61, zqp_8, zq1_3, zq3_62, by decide +kernel⟩
theorem cf_X1_accepts : CfV yX1_accepts cX1_accepts 3 (some .boolean) RX1 2 := ⟨zq3_54, zqp_7, zq1_3, zq3_55, by decide +kernel⟩
theorem cf_X1_errorIn : CfV yX1_errorIn cX1_errorIn 4 (some .int) RX1 2 := ⟨zq3_44, zq3_45, zq1_3, zq3_46, by decide +kernel⟩
theorem cf_X1_effect : CfV yX1_effect cX1_effect 1 (some .int) RX1 0 := ⟨zq3_69, zq3_70, zq1_3, zq3_71, by decide +kernel⟩
theorem cf_X2_isListed : CfV yX2_isListed cX2_isListed 3 (some .boolean) RX2 1 := ⟨zq2_37, zqp_2, zq1_7, zq2_38, by decide +kernel⟩
theorem cf_X2_listTurns : CfV yX2_listTurns cX2_listTurns 4 none RX2 1 := ⟨zq2_28, zqp_1, zq1_7, zq2_29, by decide +kernel⟩
theorem cf_X2_clear : CfV yX2_clear cX2_clear 4 (some .int) RX2 1 := ⟨zq2_41, zqp_3, zq1_7, zq2_42, by decide +kernel⟩
theorem cf_J6_bitCount_0f7a4 : CfS yJ6_bitCount_0f7a4 cJ6_bitCount_0f7a4 1 (some .int) 1 := ⟨zq2_54, zq1_22, zq2_55, by decide +kernel⟩
theorem cf_X3_rankOf : CfS yX3_rankOf cX3_rankOf 6 (some .int) 1 := ⟨zq2_48, zq1_19, zq2_49, by decide +kernel⟩
theorem cf_X2_reach : CfV yX2_reach cX2_reach 4 none RX2 2 := ⟨zq2_45, zqp_4, zq1_7, zq2_46, by decide +kernel⟩
theorem cf_X2_build : CfV yX2_build cX2_build 9 none RX2 2 := ⟨zq2_23, zq2_24, zq1_7, zq2_25, by decide +kernel⟩
theorem cf_X2_levelOf : CfV yX2_levelOf cX2_levelOf 3 (some .int) RX2 1 := ⟨zq4_142, zq4_143, zq1_7, zq4_144, by decide +kernel⟩
theorem cf_X2_size : CfV yX2_size cX2_size 1 (some .int) RX2 0 := ⟨zq2_71, zq2_72, zq1_7, zq2_73, by decide +kernel⟩
theorem cf_X2_lastLevel : CfV yX2_lastLevel cX2_lastLevel 1 (some .int) RX2 0 := ⟨zq2_79, zq2_80, zq1_7, zq2_81, by decide +kernel⟩
theorem cf_X2_sizeOfLevel : CfV yX2_sizeOfLevel cX2_sizeOfLevel 2 (some .int) RX2 1 := ⟨zq2_63, zq2_64, zq1_7, zq2_65, by decide +kernel⟩
theorem cf_X2_sumOfDepths : CfV yX2_sumOfDepths cX2_sumOfDepths 3 (some .int) RX2 0 := ⟨zq2_87, zq2_88, zq1_7, zq2_89, by decide +kernel⟩
theorem cf_X3_inverseOf : CfS yX3_inverseOf cX3_inverseOf 3 (some .int) 1 := ⟨zq3_77, zq1_19, zq3_78, by decide +kernel⟩
theorem cf_X3_differences : CfS yX3_differences cX3_differences 4 (some .int) 2 := ⟨zq3_81, zq1_19, zq3_82, by decide +kernel⟩
theorem cf_X3_cycleOf : CfS yX3_cycleOf cX3_cycleOf 4 (some .int) 2 := ⟨zq4_81, zq1_19, zq4_82, by decide +kernel⟩
theorem cf_X3_orderOf : CfS yX3_orderOf cX3_orderOf 3 (some .int) 1 := ⟨zq4_59, zq1_19, zq4_60, by decide +kernel⟩
theorem cf_X3_hasOddParity : CfS yX3_hasOddParity cX3_hasOddParity 5 (some .boolean) 1 := ⟨zq4_71, zq1_19, zq4_72, by decide +kernel⟩
theorem cf_X4_clear : CfV yX4_clear cX4_clear 2 none RX4 0 := ⟨zq1_180, zq1_181, zq1_8, zq1_182, by decide +kernel⟩
theorem cf_X6_addPart : CfV yX6_addPart cX6_addPart 6 (some .boolean) RX6 3 := ⟨zq2_113, zqp_5, zq1_9, zq2_114, by decide +kernel⟩
theorem cf_X6_addAll : CfV yX6_addAll cX6_addAll 2 (some .boolean) RX6 1 := ⟨zq2_104, zq2_105, zq1_9, zq2_106, by decide +kernel⟩
theorem cf_X6_copyFrom : CfV yX6_copyFrom cX6_copyFrom 2 none RX6 1 := ⟨zq2_100, zq2_101, zq1_9, zq2_102, by decide +kernel⟩
theorem cf_X4_copyFrom : CfV yX4_copyFrom cX4_copyFrom 3 none RX4 1 := ⟨zq2_96, zq2_97, zq1_8, zq2_98, by decide +kernel⟩
theorem cf_X4_places : CfV yX4_places cX4_places 1 (some .int) RX4 0 := ⟨zq4_100, zq4_101, zq1_8, zq4_102, by decide +kernel⟩
theorem cf_X4_arrange : CfV yX4_arrange cX4_arrange 2 none RX4 1 := ⟨zq4_108, zq4_109, zq1_8, zq4_110, by decide +kernel⟩
theorem cf_X4_word : CfV yX4_word cX4_word 2 (some (.object "PermutationPuzzle$Word")) RX4 1 := ⟨zq3_192, zq3_193, zq1_8, zq3_194, by decide +kernel⟩
theorem cf_X4_defineMove : CfV yX4_defineMove cX4_defineMove 3 none RX4 2 := ⟨zq3_73, zq3_74, zq1_8, zq3_75, by decide +kernel⟩
theorem cf_X5_isName : CfS yX5_isName cX5_isName 1 (some .boolean) 1 := ⟨zq3_119, zq1_2, zq3_120, by decide +kernel⟩
theorem cf_X4_definesNamesIn : CfV yX4_definesNamesIn cX4_definesNamesIn 4 (some .boolean) RX4 1 := ⟨zq3_130, zq3_131, zq1_8, zq3_132, by decide +kernel⟩
theorem cf_X4_effectOfWord : CfV yX4_effectOfWord cX4_effectOfWord 5 (some .int) RX4 1 := ⟨zq4_50, zq4_51, zq1_8, zq4_52, by decide +kernel⟩
theorem cf_X4_spread : CfV yX4_spread cX4_spread 5 (some .int) RX4 1 := ⟨zq4_166, zq4_167, zq1_8, zq4_168, by decide +kernel⟩
theorem cf_X5_add : CfV yX5_add cX5_add 2 (some .boolean) RX5 1 := ⟨zq2_213, zq2_214, zq1_2, zq2_215, by decide +kernel⟩
theorem cf_X5_clear : CfV yX5_clear cX5_clear 1 none RX5 0 := ⟨zq3_64, zq3_65, zq1_2, zq3_66, by decide +kernel⟩
theorem cf_X6_addInverseOf : CfV yX6_addInverseOf cX6_addInverseOf 2 (some .boolean) RX6 1 := ⟨zq4_22, zq4_23, zq1_9, zq4_24, by decide +kernel⟩
theorem cf_X6_repeatFrom : CfV yX6_repeatFrom cX6_repeatFrom 6 (some .boolean) RX6 2 := ⟨zq3_179, zq3_180, zq1_9, zq3_181, by decide +kernel⟩
theorem cf_X6_invertFrom : CfV yX6_invertFrom cX6_invertFrom 5 none RX6 1 := ⟨zq3_175, zq3_176, zq1_9, zq3_177, by decide +kernel⟩
theorem cf_X7_begins : CfV yX7_begins cX7_begins 2 (some .boolean) RX7 1 := ⟨zq3_123, zqp_10, zq1_4, zq3_124, by decide +kernel⟩
theorem cf_X7_ends : CfV yX7_ends cX7_ends 2 (some .boolean) RX7 1 := ⟨zq3_127, zqp_11, zq1_4, zq3_128, by decide +kernel⟩
theorem cf_X7_accepts : CfV yX7_accepts cX7_accepts 3 (some .boolean) RX7 1 := ⟨zq3_116, zqp_9, zq1_4, zq3_117, by decide +kernel⟩
theorem cf_X7_errorIn : CfV yX7_errorIn cX7_errorIn 3 (some .int) RX7 1 := ⟨zq3_109, zq3_110, zq1_4, zq3_111, by decide +kernel⟩
theorem cf_X8_begin : CfV yX8_begin cX8_begin 2 (some .boolean) RX8 1 := ⟨zq3_156, zqp_13, zq1_5, zq3_157, by decide +kernel⟩
theorem cf_X8_divide : CfV yX8_divide cX8_divide 2 (some .boolean) RX8 1 := ⟨zq3_160, zqp_14, zq1_5, zq3_161, by decide +kernel⟩
theorem cf_X8_end : CfV yX8_end cX8_end 3 (some .boolean) RX8 2 := ⟨zq3_164, zqp_15, zq1_5, zq3_165, by decide +kernel⟩
theorem cf_X8_writeNext : CfV yX8_writeNext cX8_writeNext 3 (some .boolean) RX8 2 := ⟨zq3_149, zqp_12, zq1_5, zq3_150, by decide +kernel⟩
theorem cf_X8_write : CfV yX8_write cX8_write 5 (some .boolean) RX8 2 := ⟨zq3_141, zq3_142, zq1_5, zq3_143, by decide +kernel⟩
