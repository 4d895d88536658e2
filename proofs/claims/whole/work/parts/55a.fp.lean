/-! floating point: comparisons, bounds -/
section QFp
theorem cv_c (i j : Int) (op : CmpOp) : Op.cmpValue (some (compare i j)) op = if i < j then -1 else if i = j then 0 else 1 := by
  rw [FP.Core.compare_ite]
  by_cases h : i < j
  · rw [if_pos h, if_pos h]; rfl
  · rw [if_neg h, if_neg h]
    by_cases h2 : i = j
    · rw [if_pos h2, if_pos h2]; rfl
    · rw [if_neg h2, if_neg h2]; rfl
theorem cv_all (i j : Int) (op : CmpOp) : (0 ≤ Op.cmpValue (some (compare i j)) op ↔ j ≤ i) ∧ (Op.cmpValue (some (compare i j)) op ≤ 0 ↔ i ≤ j) ∧ (0 < Op.cmpValue (some (compare i j)) op ↔ j < i) ∧ (Op.cmpValue (some (compare i j)) op = 0 ↔ i = j) := by
  rw [cv_c]
  by_cases h : i < j
  · rw [if_pos h]
    exact ⟨⟨fun z => absurd z (by decide), fun z => by omega⟩, ⟨fun _ => by omega, fun _ => by decide⟩, ⟨fun z => absurd z (by decide), fun z => by omega⟩, ⟨fun z => absurd z (by decide), fun z => by omega⟩⟩
  · rw [if_neg h]
    by_cases h2 : i = j
    · rw [if_pos h2]
      exact ⟨⟨fun _ => by omega, fun _ => by decide⟩, ⟨fun _ => by omega, fun _ => by decide⟩, ⟨fun z => absurd z (by decide), fun z => by omega⟩, ⟨fun _ => h2, fun _ => rfl⟩⟩
    · rw [if_neg h2]
      exact ⟨⟨fun _ => by omega, fun _ => by decide⟩, ⟨fun z => absurd z (by decide), fun z => by omega⟩, ⟨fun _ => by omega, fun _ => by decide⟩, ⟨fun z => absurd z (by decide), fun z => by omega⟩⟩
theorem cv_ge {i j : Int} {op : CmpOp} : 0 ≤ Op.cmpValue (some (compare i j)) op ↔ j ≤ i := (cv_all i j op).1
theorem cv_le {i j : Int} {op : CmpOp} : Op.cmpValue (some (compare i j)) op ≤ 0 ↔ i ≤ j := (cv_all i j op).2.1
theorem cv_gt {i j : Int} {op : CmpOp} : 0 < Op.cmpValue (some (compare i j)) op ↔ j < i := (cv_all i j op).2.2.1
theorem cv_eq {i j : Int} {op : CmpOp} : Op.cmpValue (some (compare i j)) op = 0 ↔ i = j := (cv_all i j op).2.2.2
theorem ok_units {c B : Nat} {q m : Int} (hq : m ≤ q) (hm : m < 0) : c * 2 ^ q.toNat ≤ B * 2 ^ (-q).toNat ↔ FP.Core.inUnits c q m ≤ B * 2 ^ (-m).toNat := by
  unfold FP.Core.inUnits
  have e : 2 ^ (q - m).toNat * 2 ^ (-q).toNat = 2 ^ q.toNat * 2 ^ (-m).toNat := by
    rw [← Nat.pow_add, ← Nat.pow_add]; congr 1; omega
  have p1 := Nat.two_pow_pos (-q).toNat
  have p2 := Nat.two_pow_pos (-m).toNat
  constructor
  · intro h
    refine Nat.le_of_mul_le_mul_right ?_ p1
    rw [Nat.mul_assoc, e, ← Nat.mul_assoc, Nat.mul_assoc B, Nat.mul_comm (2 ^ (-m).toNat), ← Nat.mul_assoc]
    exact Nat.mul_le_mul_right _ h
  · intro h
    refine Nat.le_of_mul_le_mul_right ?_ p2
    rw [Nat.mul_assoc, ← e, ← Nat.mul_assoc, Nat.mul_assoc B, Nat.mul_comm (2 ^ (-q).toNat), ← Nat.mul_assoc]
    exact Nat.mul_le_mul_right _ h
end QFp
