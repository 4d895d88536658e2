/-! what each method does, over the data. Written by wip/whole/genall.py -/
def P_X4_isDefined (σ : Dz) (k : Nat) (x1 : Int32) (post : Int32 → Prop) : Prop := ((¬ ((((gz_i σ k 2)).toUInt32 >>> ((x1).toUInt32 &&& Int32.toUInt32 31)).toInt32 &&& (1 : Int32)) = (1 : Int32) → post (0 : Int32)) ∧ (((((gz_i σ k 2)).toUInt32 >>> ((x1).toUInt32 &&& Int32.toUInt32 31)).toInt32 &&& (1 : Int32)) = (1 : Int32) → post (1 : Int32)))
abbrev r_X4_isDefined : Room := { frames := 0, cells := 0, slots := 0, locals := 0 }
def P_X4_effectOfLetter (σ : Dz) (k : Nat) (x1 : Int32) (post : Int32 → Prop) : Prop := ((x1 < 0 → post (1754760 : Int32)) ∧ (¬ x1 < 0 → (((10 : Int32) ≤ x1 → post (1754760 : Int32)) ∧ (¬ (10 : Int32) ≤ x1 → (vp_in x1 10 ∧ post (gz_i σ (k + 1) (x1).toNatClampNeg))))))
abbrev r_X4_effectOfLetter : Room := { frames := 0, cells := 0, slots := 0, locals := 0 }
def P_X3_imageOf (x0 : Int32) (x1 : Int32) (post : Int32 → Prop) : Prop := post (((x0).toUInt32 >>> ((((3 : Int32) * x1)).toUInt32 &&& Int32.toUInt32 31)).toInt32 &&& (7 : Int32))
abbrev r_X3_imageOf : Room := { frames := 0, cells := 0, slots := 0, locals := 0 }
def B_X3_then_4 (post : Int32 → Prop) (rc_4 : Int32 → Int32 → Int32 → Int32 → Prop) (y0 : Int32) (y1 : Int32) (y2 : Int32) (y3 : Int32) : Prop := (((7 : Int32) ≤ y3 → post y2) ∧ (¬ (7 : Int32) ≤ y3 → (P_X3_imageOf y0 y3 (fun (r14 : Int32) => (P_X3_imageOf y1 r14 (fun (r17 : Int32) => rc_4 y0 y1 (y2 ||| (r17 <<< (((3 : Int32) * y3) &&& 31))) (y3 + 1)))))))
def L_X3_then_4 (post : Int32 → Prop) : Nat → Int32 → Int32 → Int32 → Int32 → Prop
  | 0 => fun _ _ _ _ => False
  | n + 1 => B_X3_then_4 post  (L_X3_then_4 post  n)
def P_X3_then (x0 : Int32) (x1 : Int32) (post : Int32 → Prop) : Prop := (∃ n, L_X3_then_4 post  n x0 x1 (0 : Int32) (0 : Int32))
abbrev r_X3_then : Room := { frames := 1, cells := 0, slots := 0, locals := 21 }
def B_X0_listWords_81 (k1 : Nat) (post : Dz → Prop) (rc_70 : Dz → Int32 → Int32 → Prop) (rc_81 : Dz → Int32 → Int32 → Int32 → Prop) (σ : Dz) (y2 : Int32) (y3 : Int32) (y4 : Int32) : Prop := (((gz_i σ 9 2) ≤ y4 → rc_70 σ y2 (y3 + 1)) ∧ (¬ (gz_i σ 9 2) ≤ y4 → (vp_in y3 110 ∧ (vp_in y4 110 ∧ (P_X3_then (gz_i σ 11 (y3).toNatClampNeg) (gz_i σ 11 (y4).toNatClampNeg) (fun (r108 : Int32) => (vp_in y2 110 ∧ rc_81 (sz_i σ 11 (y2).toNatClampNeg r108) (y2 + 1) y3 (y4 + 1))))))))
def L_X0_listWords_81 (k1 : Nat) (post : Dz → Prop) (rc_70 : Dz → Int32 → Int32 → Prop) : Nat → Dz → Int32 → Int32 → Int32 → Prop
  | 0 => fun _ _ _ _ => False
  | n + 1 => B_X0_listWords_81 k1 post rc_70 (L_X0_listWords_81 k1 post rc_70 n)
def B_X0_listWords_70 (k1 : Nat) (post : Dz → Prop) (rc_70 : Dz → Int32 → Int32 → Prop) (σ : Dz) (y2 : Int32) (y3 : Int32) : Prop := (((gz_i σ 9 2) ≤ y3 → post σ) ∧ (¬ (gz_i σ 9 2) ≤ y3 → (∃ n, L_X0_listWords_81 k1 post rc_70 n σ y2 y3 (0 : Int32))))
def L_X0_listWords_70 (k1 : Nat) (post : Dz → Prop) : Nat → Dz → Int32 → Int32 → Prop
  | 0 => fun _ _ _ => False
  | n + 1 => B_X0_listWords_70 k1 post  (L_X0_listWords_70 k1 post  n)
def B_X0_listWords_57 (k1 : Nat) (post : Dz → Prop) (rc_7 : Dz → Int32 → Prop) (σ : Dz) (y2 : Int32) : Prop := rc_7 σ (y2 + 1)
def B_X0_listWords_7 (k1 : Nat) (post : Dz → Prop) (rc_7 : Dz → Int32 → Prop) (σ : Dz) (y2 : Int32) : Prop := (((10 : Int32) ≤ y2 → (∃ n, L_X0_listWords_70 k1 post  n σ (gz_i σ 9 2) (0 : Int32))) ∧ (¬ (10 : Int32) ≤ y2 → (P_X4_isDefined σ k1 (y2 / (2 : Int32)) (fun (r17 : Int32) => ((r17 = 0 → B_X0_listWords_57 k1 post rc_7 σ y2) ∧ (¬ r17 = 0 → (vp_in (gz_i σ 9 2) 10 ∧ (P_X4_effectOfLetter (sz_i σ 10 ((gz_i σ 9 2)).toNatClampNeg y2) k1 y2 (fun (r43 : Int32) => (vp_in (gz_i (sz_i σ 10 ((gz_i σ 9 2)).toNatClampNeg y2) 9 2) 110 ∧ B_X0_listWords_57 k1 post rc_7 (sz_i (sz_i (sz_i σ 10 ((gz_i σ 9 2)).toNatClampNeg y2) 11 ((gz_i (sz_i σ 10 ((gz_i σ 9 2)).toNatClampNeg y2) 9 2)).toNatClampNeg r43) 9 2 ((gz_i (sz_i (sz_i σ 10 ((gz_i σ 9 2)).toNatClampNeg y2) 11 ((gz_i (sz_i σ 10 ((gz_i σ 9 2)).toNatClampNeg y2) 9 2)).toNatClampNeg r43) 9 2) + (1 : Int32))) y2))))))))))
def L_X0_listWords_7 (k1 : Nat) (post : Dz → Prop) : Nat → Dz → Int32 → Prop
  | 0 => fun _ _ => False
  | n + 1 => B_X0_listWords_7 k1 post  (L_X0_listWords_7 k1 post  n)
def P_X0_listWords (σ : Dz) (k1 : Nat) (post : Dz → Prop) : Prop := (∃ n, L_X0_listWords_7 k1 post  n (sz_i σ 9 2 (0 : Int32)) (0 : Int32))
abbrev r_X0_listWords : Room := { frames := 2, cells := 0, slots := 0, locals := 44 }
def P_X0_startOf (σ : Dz) (x1 : Int32) (post : Int32 → Prop) : Prop := ((¬ x1 = (1 : Int32) → ((¬ x1 = (2 : Int32) → post ((gz_i σ 9 2) + ((gz_i σ 9 2) * (gz_i σ 9 2)))) ∧ (x1 = (2 : Int32) → post (gz_i σ 9 2)))) ∧ (x1 = (1 : Int32) → post (0 : Int32)))
abbrev r_X0_startOf : Room := { frames := 0, cells := 0, slots := 0, locals := 0 }
def B_X0_movedBy_42 (post : Int32 → Prop) (rc_4 : Int32 → Int32 → Int32 → Int32 → Prop) (y0 : Int32) (y1 : Int32) (y2 : Int32) (y3 : Int32) : Prop := rc_4 y0 y1 y2 (y3 + 1)
def B_X0_movedBy_4 (post : Int32 → Prop) (rc_4 : Int32 → Int32 → Int32 → Int32 → Prop) (y0 : Int32) (y1 : Int32) (y2 : Int32) (y3 : Int32) : Prop := (((7 : Int32) ≤ y3 → post y2) ∧ (¬ (7 : Int32) ≤ y3 → (P_X3_imageOf y0 y3 (fun (r13 : Int32) => (P_X3_imageOf y1 r13 (fun (r16 : Int32) => (P_X3_imageOf y1 y3 (fun (r24 : Int32) => (P_X3_imageOf y0 r24 (fun (r27 : Int32) => ((r16 = r27 → B_X0_movedBy_42 post rc_4 y0 y1 y2 y3) ∧ (¬ r16 = r27 → B_X0_movedBy_42 post rc_4 y0 y1 (y2 + 1) y3))))))))))))
def L_X0_movedBy_4 (post : Int32 → Prop) : Nat → Int32 → Int32 → Int32 → Int32 → Prop
  | 0 => fun _ _ _ _ => False
  | n + 1 => B_X0_movedBy_4 post  (L_X0_movedBy_4 post  n)
def P_X0_movedBy (x0 : Int32) (x1 : Int32) (post : Int32 → Prop) : Prop := (∃ n, L_X0_movedBy_4 post  n x0 x1 (0 : Int32) (0 : Int32))
abbrev r_X0_movedBy : Room := { frames := 1, cells := 0, slots := 0, locals := 21 }
def B_X0_findAmong_26 (post : Int32 → Dz → Prop) (rc_7 : Dz → Int32 → Int32 → Int32 → Int32 → Prop) (rc_26 : Dz → Int32 → Int32 → Int32 → Int32 → Int32 → Prop) (σ : Dz) (y1 : Int32) (y2 : Int32) (y3 : Int32) (y4 : Int32) (y5 : Int32) : Prop := (P_X0_startOf σ (y2 + (1 : Int32)) (fun (r32 : Int32) => ((r32 ≤ y5 → rc_7 σ y1 y2 y3 (y4 + 1)) ∧ (¬ r32 ≤ y5 → (vp_in y4 110 ∧ (vp_in y5 110 ∧ (P_X0_movedBy (gz_i σ 11 (y4).toNatClampNeg) (gz_i σ 11 (y5).toNatClampNeg) (fun (r52 : Int32) => ((¬ r52 = y3 → rc_26 σ y1 y2 y3 y4 (y5 + 1)) ∧ (r52 = y3 → post (1 : Int32) (sz_i (sz_i σ 9 3 y4) 9 4 y5)))))))))))
def L_X0_findAmong_26 (post : Int32 → Dz → Prop) (rc_7 : Dz → Int32 → Int32 → Int32 → Int32 → Prop) : Nat → Dz → Int32 → Int32 → Int32 → Int32 → Int32 → Prop
  | 0 => fun _ _ _ _ _ _ => False
  | n + 1 => B_X0_findAmong_26 post rc_7 (L_X0_findAmong_26 post rc_7 n)
def B_X0_findAmong_7 (post : Int32 → Dz → Prop) (rc_7 : Dz → Int32 → Int32 → Int32 → Int32 → Prop) (σ : Dz) (y1 : Int32) (y2 : Int32) (y3 : Int32) (y4 : Int32) : Prop := (P_X0_startOf σ (y1 + (1 : Int32)) (fun (r13 : Int32) => ((r13 ≤ y4 → post (0 : Int32) σ) ∧ (¬ r13 ≤ y4 → (P_X0_startOf σ y2 (fun (r21 : Int32) => (∃ n, L_X0_findAmong_26 post rc_7 n σ y1 y2 y3 y4 r21)))))))
def L_X0_findAmong_7 (post : Int32 → Dz → Prop) : Nat → Dz → Int32 → Int32 → Int32 → Int32 → Prop
  | 0 => fun _ _ _ _ _ => False
  | n + 1 => B_X0_findAmong_7 post  (L_X0_findAmong_7 post  n)
def P_X0_findAmong (σ : Dz) (x1 : Int32) (x2 : Int32) (x3 : Int32) (post : Int32 → Dz → Prop) : Prop := (P_X0_startOf σ x1 (fun (r2 : Int32) => (∃ n, L_X0_findAmong_7 post  n σ x1 x2 x3 r2)))
abbrev r_X0_findAmong : Room := { frames := 2, cells := 0, slots := 0, locals := 46 }
def P_X6_clear (σ : Dz) (w : Nat) (post : Dz → Prop) : Prop := post (sz_i σ w 1 (0 : Int32))
abbrev r_X6_clear : Room := { frames := 0, cells := 0, slots := 0, locals := 0 }
def P_X6_add (σ : Dz) (w : Nat) (x1 : Int32) (post : Int32 → Dz → Prop) : Prop := (((gz_i σ w 1) < (200 : Int32) → (vp_in (gz_i σ w 1) 200 ∧ post (1 : Int32) (sz_i (sz_i σ (w + 1) ((gz_i σ w 1)).toNatClampNeg x1) w 1 ((gz_i (sz_i σ (w + 1) ((gz_i σ w 1)).toNatClampNeg x1) w 1) + (1 : Int32))))) ∧ (¬ (gz_i σ w 1) < (200 : Int32) → post (0 : Int32) σ))
abbrev r_X6_add : Room := { frames := 0, cells := 0, slots := 0, locals := 0 }
def B_X0_writeWord_26 (w2 : Nat) (post : Dz → Prop) (σ : Dz) (y1 : Int32) : Prop := (((gz_i σ 9 2) ≤ 0 → post σ) ∧ (¬ (gz_i σ 9 2) ≤ 0 → (P_X0_startOf σ (3 : Int32) (fun (r36 : Int32) => ((r36 ≤ y1 → post σ) ∧ (¬ r36 ≤ y1 → (¬ (gz_i σ 9 2) = 0 ∧ (vp_in ((y1 - (gz_i σ 9 2)) / (gz_i σ 9 2)) 10 ∧ (P_X6_add σ w2 (gz_i σ 10 (((y1 - (gz_i σ 9 2)) / (gz_i σ 9 2))).toNatClampNeg) (fun (r61 : Int32) (τ61 : Dz) => (¬ (gz_i τ61 9 2) = 0 ∧ (vp_in ((y1 - (gz_i σ 9 2)) - (y1 - (gz_i σ 9 2)) / (gz_i τ61 9 2) * (gz_i τ61 9 2)) 10 ∧ (P_X6_add τ61 w2 (gz_i τ61 10 (((y1 - (gz_i σ 9 2)) - (y1 - (gz_i σ 9 2)) / (gz_i τ61 9 2) * (gz_i τ61 9 2))).toNatClampNeg) (fun (r77 : Int32) (τ77 : Dz) => post τ77))))))))))))))
def P_X0_writeWord (σ : Dz) (w2 : Nat) (x1 : Int32) (post : Dz → Prop) : Prop := ((x1 < 0 → B_X0_writeWord_26 w2 post  σ x1) ∧ (¬ x1 < 0 → (((gz_i σ 9 2) ≤ x1 → B_X0_writeWord_26 w2 post  σ x1) ∧ (¬ (gz_i σ 9 2) ≤ x1 → (vp_in x1 10 ∧ (P_X6_add σ w2 (gz_i σ 10 (x1).toNatClampNeg) (fun (r19 : Int32) (τ19 : Dz) => post τ19)))))))
abbrev r_X0_writeWord : Room := { frames := 1, cells := 0, slots := 0, locals := 21 }
def P_X6_length (σ : Dz) (w : Nat) (post : Int32 → Prop) : Prop := post (gz_i σ w 1)
abbrev r_X6_length : Room := { frames := 0, cells := 0, slots := 0, locals := 0 }
def P_X6_at (σ : Dz) (w : Nat) (x1 : Int32) (post : Int32 → Prop) : Prop := ((x1 < 0 → post (0 : Int32)) ∧ (¬ x1 < 0 → (((gz_i σ w 1) ≤ x1 → post (0 : Int32)) ∧ (¬ (gz_i σ w 1) ≤ x1 → (vp_in x1 200 ∧ post (gz_i σ (w + 1) (x1).toNatClampNeg))))))
abbrev r_X6_at : Room := { frames := 0, cells := 0, slots := 0, locals := 0 }
def B_X6_addInverseOfPart_8 (w : Nat) (w1 : Nat) (post : Int32 → Dz → Prop) (rc_8 : Dz → Int32 → Int32 → Int32 → Prop) (σ : Dz) (y2 : Int32) (y4 : Int32) (y5 : Int32) : Prop := ((y4 = 0 → ((y4 = 0 ∨ y4 = 1) ∧ post y4 σ)) ∧ (¬ y4 = 0 → ((y5 < y2 → ((y4 = 0 ∨ y4 = 1) ∧ post y4 σ)) ∧ (¬ y5 < y2 → (P_X6_at σ w1 y5 (fun (r23 : Int32) => (P_X6_add σ w (r23 ^^^ (1 : Int32)) (fun (r28 : Int32) (τ28 : Dz) => rc_8 τ28 y2 r28 (y5 + (-1))))))))))
def L_X6_addInverseOfPart_8 (w : Nat) (w1 : Nat) (post : Int32 → Dz → Prop) : Nat → Dz → Int32 → Int32 → Int32 → Prop
  | 0 => fun _ _ _ _ => False
  | n + 1 => B_X6_addInverseOfPart_8 w w1 post  (L_X6_addInverseOfPart_8 w w1 post  n)
def P_X6_addInverseOfPart (σ : Dz) (w : Nat) (w1 : Nat) (x2 : Int32) (x3 : Int32) (post : Int32 → Dz → Prop) : Prop := (∃ n, L_X6_addInverseOfPart_8 w w1 post  n σ x2 (1 : Int32) (x3 - (1 : Int32)))
abbrev r_X6_addInverseOfPart : Room := { frames := 1, cells := 0, slots := 0, locals := 21 }
def P_X6_closeCommutator (σ : Dz) (w : Nat) (x1 : Int32) (x2 : Int32) (post : Int32 → Dz → Prop) : Prop := (P_X6_addInverseOfPart σ w w x1 x2 (fun (r9 : Int32) (τ9 : Dz) => ((r9 = 0 → post (0 : Int32) τ9) ∧ (¬ r9 = 0 → (P_X6_addInverseOfPart τ9 w w x2 (gz_i σ w 1) (fun (r19 : Int32) (τ19 : Dz) => ((r19 = 0 → post (0 : Int32) τ19) ∧ (¬ r19 = 0 → post (1 : Int32) τ19))))))))
abbrev r_X6_closeCommutator : Room := { frames := 2, cells := 0, slots := 0, locals := 46 }
def B_X0_find_62 (k1 : Nat) (w3 : Nat) (post : Int32 → Dz → Prop) (σ : Dz) (z0 : Int32) : Prop := ((z0 = 0 → ((z0 = 0 ∨ z0 = 1) ∧ post z0 σ)) ∧ (¬ z0 = 0 → (P_X6_clear σ w3 (fun (τ70 : Dz) => (P_X0_writeWord τ70 w3 (gz_i τ70 9 3) (fun (τ79 : Dz) => (P_X6_length τ79 w3 (fun (r83 : Int32) => (P_X0_writeWord τ79 w3 (gz_i τ79 9 4) (fun (τ94 : Dz) => (P_X6_closeCommutator τ94 w3 (0 : Int32) r83 (fun (r101 : Int32) (τ101 : Dz) => ((z0 = 0 ∨ z0 = 1) ∧ post z0 τ101)))))))))))))
def B_X0_find_57 (k1 : Nat) (w3 : Nat) (post : Int32 → Dz → Prop) (σ : Dz) : Prop := B_X0_find_62 k1 w3 post  σ (1 : Int32)
def P_X0_find (σ : Dz) (k1 : Nat) (w3 : Nat) (x2 : Int32) (post : Int32 → Dz → Prop) : Prop := ((x2 < 0 → post (0 : Int32) σ) ∧ (¬ x2 < 0 → ((x2 ≤ (7 : Int32) → (P_X0_listWords σ k1 (fun (τ14 : Dz) => (P_X0_findAmong τ14 (1 : Int32) (1 : Int32) x2 (fun (r21 : Int32) (τ21 : Dz) => ((¬ r21 = 0 → B_X0_find_57 k1 w3 post  τ21) ∧ (r21 = 0 → (P_X0_findAmong τ21 (1 : Int32) (2 : Int32) x2 (fun (r31 : Int32) (τ31 : Dz) => ((¬ r31 = 0 → B_X0_find_57 k1 w3 post  τ31) ∧ (r31 = 0 → (P_X0_findAmong τ31 (2 : Int32) (1 : Int32) x2 (fun (r41 : Int32) (τ41 : Dz) => ((¬ r41 = 0 → B_X0_find_57 k1 w3 post  τ41) ∧ (r41 = 0 → (P_X0_findAmong τ41 (2 : Int32) (2 : Int32) x2 (fun (r51 : Int32) (τ51 : Dz) => ((r51 = 0 → B_X0_find_62 k1 w3 post  τ51 (0 : Int32)) ∧ (¬ r51 = 0 → B_X0_find_57 k1 w3 post  τ51))))))))))))))))))) ∧ (¬ x2 ≤ (7 : Int32) → post (0 : Int32) σ))))
abbrev r_X0_find : Room := { frames := 3, cells := 0, slots := 0, locals := 71 }
def P_X5_length (σ : Dz) (post : Int32 → Prop) : Prop := post (gz_i σ 1 1)
abbrev r_X5_length : Room := { frames := 0, cells := 0, slots := 0, locals := 0 }
def P_X5_at (σ : Dz) (x1 : Int32) (post : Int32 → Prop) : Prop := ((x1 < 0 → (narrow .char (.int (0 : Int32)) = .int (0 : Int32) ∧ post (0 : Int32))) ∧ (¬ x1 < 0 → (((gz_i σ 1 1) ≤ x1 → (narrow .char (.int (0 : Int32)) = .int (0 : Int32) ∧ post (0 : Int32))) ∧ (¬ (gz_i σ 1 1) ≤ x1 → (vp_in x1 40 ∧ (narrow .char (.int (gz_i σ 2 (x1).toNatClampNeg)) = .int (gz_i σ 2 (x1).toNatClampNeg) ∧ post (gz_i σ 2 (x1).toNatClampNeg)))))))
abbrev r_X5_at : Room := { frames := 0, cells := 0, slots := 0, locals := 0 }
def P_X3_withImage (x0 : Int32) (x1 : Int32) (x2 : Int32) (post : Int32 → Prop) : Prop := post ((x0 &&& (((7 : Int32) <<< (((3 : Int32) * x1) &&& 31)) ^^^ (-1 : Int32))) ||| (x2 <<< (((3 : Int32) * x1) &&& 31)))
abbrev r_X3_withImage : Room := { frames := 0, cells := 0, slots := 0, locals := 0 }
def B_X1_acceptsPosition_66 (post : Int32 → Dz → Prop) (σ : Dz) (y1 : Int32) : Prop := post (1 : Int32) (sz_i (sz_i σ 3 4 y1) 3 2 ((gz_i (sz_i σ 3 4 y1) 3 2) + (1 : Int32)))
def P_X1_acceptsPosition (σ : Dz) (x1 : Int32) (x2 : Int32) (post : Int32 → Dz → Prop) : Prop := ((x1 < 0 → post (0 : Int32) σ) ∧ (¬ x1 < 0 → ((x2 ≤ x1 → post (0 : Int32) σ) ∧ (¬ x2 ≤ x1 → ((¬ ((((gz_i σ 3 1)).toUInt32 >>> ((x1).toUInt32 &&& Int32.toUInt32 31)).toInt32 &&& (1 : Int32)) = (1 : Int32) → ((¬ (gz_i (sz_i σ 3 1 ((gz_i σ 3 1) ||| ((1 : Int32) <<< (x1 &&& 31)))) 3 2) = 0 → (P_X3_withImage (gz_i (sz_i σ 3 1 ((gz_i σ 3 1) ||| ((1 : Int32) <<< (x1 &&& 31)))) 3 0) (gz_i (sz_i σ 3 1 ((gz_i σ 3 1) ||| ((1 : Int32) <<< (x1 &&& 31)))) 3 4) x1 (fun (r60 : Int32) => B_X1_acceptsPosition_66 post  (sz_i (sz_i σ 3 1 ((gz_i σ 3 1) ||| ((1 : Int32) <<< (x1 &&& 31)))) 3 0 r60) x1))) ∧ ((gz_i (sz_i σ 3 1 ((gz_i σ 3 1) ||| ((1 : Int32) <<< (x1 &&& 31)))) 3 2) = 0 → B_X1_acceptsPosition_66 post  (sz_i (sz_i σ 3 1 ((gz_i σ 3 1) ||| ((1 : Int32) <<< (x1 &&& 31)))) 3 3 x1) x1))) ∧ (((((gz_i σ 3 1)).toUInt32 >>> ((x1).toUInt32 &&& Int32.toUInt32 31)).toInt32 &&& (1 : Int32)) = (1 : Int32) → post (0 : Int32) σ))))))
abbrev r_X1_acceptsPosition : Room := { frames := 1, cells := 0, slots := 0, locals := 22 }
def P_X1_accepts (σ : Dz) (x1 : Int32) (x2 : Int32) (post : Int32 → Dz → Prop) : Prop := ((¬ (gz_i σ 3 5) = 0 → ((¬ x1 = (41 : Int32) → (P_X1_acceptsPosition σ (x1 - (49 : Int32)) x2 (fun (r79 : Int32) (τ79 : Dz) => ((r79 = 0 ∨ r79 = 1) ∧ post r79 τ79)))) ∧ (x1 = (41 : Int32) → (P_X3_withImage (gz_i (sz_i σ 3 5 (0 : Int32)) 3 0) (gz_i (sz_i σ 3 5 (0 : Int32)) 3 4) (gz_i (sz_i σ 3 5 (0 : Int32)) 3 3) (fun (r53 : Int32) => (((gz_i (sz_i (sz_i σ 3 5 (0 : Int32)) 3 0 r53) 3 2) < (2 : Int32) → post (0 : Int32) (sz_i (sz_i σ 3 5 (0 : Int32)) 3 0 r53)) ∧ (¬ (gz_i (sz_i (sz_i σ 3 5 (0 : Int32)) 3 0 r53) 3 2) < (2 : Int32) → post (1 : Int32) (sz_i (sz_i σ 3 5 (0 : Int32)) 3 0 r53)))))))) ∧ ((gz_i σ 3 5) = 0 → ((¬ x1 = (40 : Int32) → post (0 : Int32) (sz_i (sz_i σ 3 5 (1 : Int32)) 3 2 (0 : Int32))) ∧ (x1 = (40 : Int32) → post (1 : Int32) (sz_i (sz_i σ 3 5 (1 : Int32)) 3 2 (0 : Int32))))))
abbrev r_X1_accepts : Room := { frames := 2, cells := 0, slots := 0, locals := 44 }
def B_X1_errorIn_18 (post : Int32 → Dz → Prop) (rc_18 : Dz → Int32 → Int32 → Prop) (σ : Dz) (y2 : Int32) (y3 : Int32) : Prop := (P_X5_length σ (fun (r20 : Int32) => ((r20 ≤ y3 → (((gz_i σ 3 5) = 0 → post (-1 : Int32) σ) ∧ (¬ (gz_i σ 3 5) = 0 → (P_X5_length σ (fun (r55 : Int32) => post r55 σ))))) ∧ (¬ r20 ≤ y3 → (P_X5_at σ y3 (fun (r29 : Int32) => (P_X1_accepts σ r29 y2 (fun (r33 : Int32) (τ33 : Dz) => ((¬ r33 = 0 → rc_18 τ33 y2 (y3 + 1)) ∧ (r33 = 0 → post y3 τ33))))))))))
def L_X1_errorIn_18 (post : Int32 → Dz → Prop) : Nat → Dz → Int32 → Int32 → Prop
  | 0 => fun _ _ _ => False
  | n + 1 => B_X1_errorIn_18 post  (L_X1_errorIn_18 post  n)
def P_X1_errorIn (σ : Dz) (x2 : Int32) (post : Int32 → Dz → Prop) : Prop := (∃ n, L_X1_errorIn_18 post  n (sz_i (sz_i (sz_i σ 3 0 (1754760 : Int32)) 3 1 (0 : Int32)) 3 5 (0 : Int32)) x2 (0 : Int32))
abbrev r_X1_errorIn : Room := { frames := 3, cells := 0, slots := 0, locals := 66 }
def P_X1_effect (σ : Dz) (post : Int32 → Prop) : Prop := post (gz_i σ 3 0)
abbrev r_X1_effect : Room := { frames := 0, cells := 0, slots := 0, locals := 0 }
def B_X2_isListed_2 (σ : Dz) (post : Int32 → Prop) (rc_2 : Int32 → Int32 → Prop) (y1 : Int32) (y2 : Int32) : Prop := (((gz_i σ 12 4) ≤ y2 → post (0 : Int32)) ∧ (¬ (gz_i σ 12 4) ≤ y2 → (vp_in y2 10 ∧ ((¬ (gz_i σ 16 (y2).toNatClampNeg) = y1 → rc_2 y1 (y2 + 1)) ∧ ((gz_i σ 16 (y2).toNatClampNeg) = y1 → post (1 : Int32))))))
def L_X2_isListed_2 (σ : Dz) (post : Int32 → Prop) : Nat → Int32 → Int32 → Prop
  | 0 => fun _ _ => False
  | n + 1 => B_X2_isListed_2 σ post  (L_X2_isListed_2 σ post  n)
def P_X2_isListed (σ : Dz) (x1 : Int32) (post : Int32 → Prop) : Prop := (∃ n, L_X2_isListed_2 σ post  n x1 (0 : Int32))
abbrev r_X2_isListed : Room := { frames := 0, cells := 0, slots := 0, locals := 0 }
def B_X2_listTurns_53 (k1 : Nat) (post : Dz → Prop) (rc_7 : Dz → Int32 → Prop) (σ : Dz) (y2 : Int32) : Prop := rc_7 σ (y2 + 1)
def B_X2_listTurns_7 (k1 : Nat) (post : Dz → Prop) (rc_7 : Dz → Int32 → Prop) (σ : Dz) (y2 : Int32) : Prop := (((10 : Int32) ≤ y2 → post σ) ∧ (¬ (10 : Int32) ≤ y2 → (P_X4_effectOfLetter σ k1 y2 (fun (r15 : Int32) => ((r15 = (1754760 : Int32) → B_X2_listTurns_53 k1 post rc_7 σ y2) ∧ (¬ r15 = (1754760 : Int32) → (P_X2_isListed σ r15 (fun (r27 : Int32) => ((¬ r27 = 0 → B_X2_listTurns_53 k1 post rc_7 σ y2) ∧ (r27 = 0 → (vp_in (gz_i σ 12 4) 10 ∧ B_X2_listTurns_53 k1 post rc_7 (sz_i (sz_i σ 16 ((gz_i σ 12 4)).toNatClampNeg r15) 12 4 ((gz_i (sz_i σ 16 ((gz_i σ 12 4)).toNatClampNeg r15) 12 4) + (1 : Int32))) y2)))))))))))
def L_X2_listTurns_7 (k1 : Nat) (post : Dz → Prop) : Nat → Dz → Int32 → Prop
  | 0 => fun _ _ => False
  | n + 1 => B_X2_listTurns_7 k1 post  (L_X2_listTurns_7 k1 post  n)
def P_X2_listTurns (σ : Dz) (k1 : Nat) (post : Dz → Prop) : Prop := (∃ n, L_X2_listTurns_7 k1 post  n (sz_i σ 12 4 (0 : Int32)) (0 : Int32))
abbrev r_X2_listTurns : Room := { frames := 1, cells := 0, slots := 0, locals := 22 }
def B_X2_clear_27 (post : Int32 → Dz → Prop) (rc_27 : Dz → Int32 → Int32 → Prop) (σ : Dz) (y2 : Int32) (y3 : Int32) : Prop := ((y2 ≤ y3 → post y2 (sz_i σ 12 5 (0 : Int32))) ∧ (¬ y2 ≤ y3 → (((5040 : Int32) ≤ y3 → post y2 (sz_i σ 12 5 (0 : Int32))) ∧ (¬ (5040 : Int32) ≤ y3 → (vp_in y3 5040 ∧ rc_27 (sz_i σ 13 (y3).toNatClampNeg (-1 : Int32)) y2 (y3 + 1))))))
def L_X2_clear_27 (post : Int32 → Dz → Prop) : Nat → Dz → Int32 → Int32 → Prop
  | 0 => fun _ _ _ => False
  | n + 1 => B_X2_clear_27 post  (L_X2_clear_27 post  n)
def B_X2_clear_25 (post : Int32 → Dz → Prop) (σ : Dz) (y2 : Int32) : Prop := (∃ n, L_X2_clear_27 post  n σ y2 (0 : Int32))
def B_X2_clear_4 (post : Int32 → Dz → Prop) (rc_4 : Dz → Int32 → Int32 → Int32 → Prop) (σ : Dz) (y1 : Int32) (y2 : Int32) (y3 : Int32) : Prop := ((y1 < y3 → B_X2_clear_25 post  σ y2) ∧ (¬ y1 < y3 → (((7 : Int32) < y3 → B_X2_clear_25 post  σ y2) ∧ (¬ (7 : Int32) < y3 → rc_4 σ y1 (y2 * y3) (y3 + 1)))))
def L_X2_clear_4 (post : Int32 → Dz → Prop) : Nat → Dz → Int32 → Int32 → Int32 → Prop
  | 0 => fun _ _ _ _ => False
  | n + 1 => B_X2_clear_4 post  (L_X2_clear_4 post  n)
def P_X2_clear (σ : Dz) (x1 : Int32) (post : Int32 → Dz → Prop) : Prop := (∃ n, L_X2_clear_4 post  n σ x1 (1 : Int32) (2 : Int32))
abbrev r_X2_clear : Room := { frames := 0, cells := 0, slots := 0, locals := 0 }
def P_J6_bitCount_0f7a4 (x0 : Int32) (post : Int32 → Prop) : Prop := post ((((((((x0 - (((x0).toUInt32 >>> (((1 : Int32)).toUInt32 &&& Int32.toUInt32 31)).toInt32 &&& (1431655765 : Int32))) &&& (858993459 : Int32)) + ((((x0 - (((x0).toUInt32 >>> (((1 : Int32)).toUInt32 &&& Int32.toUInt32 31)).toInt32 &&& (1431655765 : Int32)))).toUInt32 >>> (((2 : Int32)).toUInt32 &&& Int32.toUInt32 31)).toInt32 &&& (858993459 : Int32))) + (((((x0 - (((x0).toUInt32 >>> (((1 : Int32)).toUInt32 &&& Int32.toUInt32 31)).toInt32 &&& (1431655765 : Int32))) &&& (858993459 : Int32)) + ((((x0 - (((x0).toUInt32 >>> (((1 : Int32)).toUInt32 &&& Int32.toUInt32 31)).toInt32 &&& (1431655765 : Int32)))).toUInt32 >>> (((2 : Int32)).toUInt32 &&& Int32.toUInt32 31)).toInt32 &&& (858993459 : Int32)))).toUInt32 >>> (((4 : Int32)).toUInt32 &&& Int32.toUInt32 31)).toInt32) &&& (252645135 : Int32)) + (((((((x0 - (((x0).toUInt32 >>> (((1 : Int32)).toUInt32 &&& Int32.toUInt32 31)).toInt32 &&& (1431655765 : Int32))) &&& (858993459 : Int32)) + ((((x0 - (((x0).toUInt32 >>> (((1 : Int32)).toUInt32 &&& Int32.toUInt32 31)).toInt32 &&& (1431655765 : Int32)))).toUInt32 >>> (((2 : Int32)).toUInt32 &&& Int32.toUInt32 31)).toInt32 &&& (858993459 : Int32))) + (((((x0 - (((x0).toUInt32 >>> (((1 : Int32)).toUInt32 &&& Int32.toUInt32 31)).toInt32 &&& (1431655765 : Int32))) &&& (858993459 : Int32)) + ((((x0 - (((x0).toUInt32 >>> (((1 : Int32)).toUInt32 &&& Int32.toUInt32 31)).toInt32 &&& (1431655765 : Int32)))).toUInt32 >>> (((2 : Int32)).toUInt32 &&& Int32.toUInt32 31)).toInt32 &&& (858993459 : Int32)))).toUInt32 >>> (((4 : Int32)).toUInt32 &&& Int32.toUInt32 31)).toInt32) &&& (252645135 : Int32))).toUInt32 >>> (((8 : Int32)).toUInt32 &&& Int32.toUInt32 31)).toInt32) + ((((((((x0 - (((x0).toUInt32 >>> (((1 : Int32)).toUInt32 &&& Int32.toUInt32 31)).toInt32 &&& (1431655765 : Int32))) &&& (858993459 : Int32)) + ((((x0 - (((x0).toUInt32 >>> (((1 : Int32)).toUInt32 &&& Int32.toUInt32 31)).toInt32 &&& (1431655765 : Int32)))).toUInt32 >>> (((2 : Int32)).toUInt32 &&& Int32.toUInt32 31)).toInt32 &&& (858993459 : Int32))) + (((((x0 - (((x0).toUInt32 >>> (((1 : Int32)).toUInt32 &&& Int32.toUInt32 31)).toInt32 &&& (1431655765 : Int32))) &&& (858993459 : Int32)) + ((((x0 - (((x0).toUInt32 >>> (((1 : Int32)).toUInt32 &&& Int32.toUInt32 31)).toInt32 &&& (1431655765 : Int32)))).toUInt32 >>> (((2 : Int32)).toUInt32 &&& Int32.toUInt32 31)).toInt32 &&& (858993459 : Int32)))).toUInt32 >>> (((4 : Int32)).toUInt32 &&& Int32.toUInt32 31)).toInt32) &&& (252645135 : Int32)) + (((((((x0 - (((x0).toUInt32 >>> (((1 : Int32)).toUInt32 &&& Int32.toUInt32 31)).toInt32 &&& (1431655765 : Int32))) &&& (858993459 : Int32)) + ((((x0 - (((x0).toUInt32 >>> (((1 : Int32)).toUInt32 &&& Int32.toUInt32 31)).toInt32 &&& (1431655765 : Int32)))).toUInt32 >>> (((2 : Int32)).toUInt32 &&& Int32.toUInt32 31)).toInt32 &&& (858993459 : Int32))) + (((((x0 - (((x0).toUInt32 >>> (((1 : Int32)).toUInt32 &&& Int32.toUInt32 31)).toInt32 &&& (1431655765 : Int32))) &&& (858993459 : Int32)) + ((((x0 - (((x0).toUInt32 >>> (((1 : Int32)).toUInt32 &&& Int32.toUInt32 31)).toInt32 &&& (1431655765 : Int32)))).toUInt32 >>> (((2 : Int32)).toUInt32 &&& Int32.toUInt32 31)).toInt32 &&& (858993459 : Int32)))).toUInt32 >>> (((4 : Int32)).toUInt32 &&& Int32.toUInt32 31)).toInt32) &&& (252645135 : Int32))).toUInt32 >>> (((8 : Int32)).toUInt32 &&& Int32.toUInt32 31)).toInt32)).toUInt32 >>> (((16 : Int32)).toUInt32 &&& Int32.toUInt32 31)).toInt32) &&& (63 : Int32))
abbrev r_J6_bitCount_0f7a4 : Room := { frames := 0, cells := 0, slots := 0, locals := 0 }
def B_X3_rankOf_9 (post : Int32 → Prop) (rc_9 : Int32 → Int32 → Int32 → Int32 → Int32 → Prop) (y0 : Int32) (y1 : Int32) (y2 : Int32) (y3 : Int32) (y4 : Int32) : Prop := (((7 : Int32) ≤ y4 → post y2) ∧ (¬ (7 : Int32) ≤ y4 → (P_X3_imageOf y0 y4 (fun (r19 : Int32) => (P_J6_bitCount_0f7a4 (((y1).toUInt32 >>> ((r19).toUInt32 &&& Int32.toUInt32 31)).toInt32) (fun (r30 : Int32) => rc_9 y0 (y1 ||| ((1 : Int32) <<< (r19 &&& 31))) (y2 + (y3 * r30)) (y3 * (y4 + (1 : Int32))) (y4 + 1)))))))
def L_X3_rankOf_9 (post : Int32 → Prop) : Nat → Int32 → Int32 → Int32 → Int32 → Int32 → Prop
  | 0 => fun _ _ _ _ _ => False
  | n + 1 => B_X3_rankOf_9 post  (L_X3_rankOf_9 post  n)
def P_X3_rankOf (x0 : Int32) (post : Int32 → Prop) : Prop := (∃ n, L_X3_rankOf_9 post  n x0 (0 : Int32) (0 : Int32) (1 : Int32) (0 : Int32))
abbrev r_X3_rankOf : Room := { frames := 1, cells := 0, slots := 0, locals := 21 }
def P_X2_reach (σ : Dz) (x1 : Int32) (x2 : Int32) (post : Dz → Prop) : Prop := (P_X3_rankOf x1 (fun (r1 : Int32) => ((r1 < 0 → post σ) ∧ (¬ r1 < 0 → (((5040 : Int32) ≤ r1 → post σ) ∧ (¬ (5040 : Int32) ≤ r1 → (((gz_i σ 12 5) < (5040 : Int32) → (vp_in r1 5040 ∧ ((¬ (gz_i σ 13 (r1).toNatClampNeg) = (-1 : Int32) → post σ) ∧ ((gz_i σ 13 (r1).toNatClampNeg) = (-1 : Int32) → (vp_in r1 5040 ∧ (vp_in (gz_i (sz_i σ 13 (r1).toNatClampNeg x2) 12 5) 5040 ∧ post (sz_i (sz_i (sz_i σ 13 (r1).toNatClampNeg x2) 14 ((gz_i (sz_i σ 13 (r1).toNatClampNeg x2) 12 5)).toNatClampNeg x1) 12 5 ((gz_i (sz_i (sz_i σ 13 (r1).toNatClampNeg x2) 14 ((gz_i (sz_i σ 13 (r1).toNatClampNeg x2) 12 5)).toNatClampNeg x1) 12 5) + (1 : Int32))))))))) ∧ (¬ (gz_i σ 12 5) < (5040 : Int32) → post σ))))))))
abbrev r_X2_reach : Room := { frames := 2, cells := 0, slots := 0, locals := 46 }
def B_X2_build_115 (k1 : Nat) (post : Dz → Prop) (rc_24 : Dz → Int32 → Int32 → Int32 → Prop) (σ : Dz) (y3 : Int32) (y5 : Int32) (y6 : Int32) : Prop := (vp_in (y5 + (1 : Int32)) 5041 ∧ rc_24 (sz_i (sz_i σ 15 ((y5 + (1 : Int32))).toNatClampNeg y6) 12 6 y5) y3 y6 (y5 + 1))
def B_X2_build_69 (k1 : Nat) (post : Dz → Prop) (rc_24 : Dz → Int32 → Int32 → Int32 → Prop) (rc_51 : Dz → Int32 → Int32 → Int32 → Int32 → Prop) (rc_69 : Dz → Int32 → Int32 → Int32 → Int32 → Int32 → Prop) (σ : Dz) (y3 : Int32) (y5 : Int32) (y6 : Int32) (y7 : Int32) (y8 : Int32) : Prop := (((gz_i σ 12 4) ≤ y8 → rc_51 σ y3 y5 y6 (y7 + 1)) ∧ (¬ (gz_i σ 12 4) ≤ y8 → (vp_in y7 5040 ∧ (vp_in y8 10 ∧ (P_X3_then (gz_i σ 14 (y7).toNatClampNeg) (gz_i σ 16 (y8).toNatClampNeg) (fun (r93 : Int32) => (P_X2_reach σ r93 (y5 + (1 : Int32)) (fun (τ100 : Dz) => rc_69 τ100 y3 y5 y6 y7 (y8 + 1)))))))))
def L_X2_build_69 (k1 : Nat) (post : Dz → Prop) (rc_24 : Dz → Int32 → Int32 → Int32 → Prop) (rc_51 : Dz → Int32 → Int32 → Int32 → Int32 → Prop) : Nat → Dz → Int32 → Int32 → Int32 → Int32 → Int32 → Prop
  | 0 => fun _ _ _ _ _ _ => False
  | n + 1 => B_X2_build_69 k1 post rc_24 rc_51 (L_X2_build_69 k1 post rc_24 rc_51 n)
def B_X2_build_51 (k1 : Nat) (post : Dz → Prop) (rc_24 : Dz → Int32 → Int32 → Int32 → Prop) (rc_51 : Dz → Int32 → Int32 → Int32 → Int32 → Prop) (σ : Dz) (y3 : Int32) (y5 : Int32) (y6 : Int32) (y7 : Int32) : Prop := ((y6 ≤ y7 → B_X2_build_115 k1 post rc_24 σ y3 y5 y6) ∧ (¬ y6 ≤ y7 → ((y3 ≤ (gz_i σ 12 5) → B_X2_build_115 k1 post rc_24 σ y3 y5 y6) ∧ (¬ y3 ≤ (gz_i σ 12 5) → (∃ n, L_X2_build_69 k1 post rc_24 rc_51 n σ y3 y5 y6 y7 (0 : Int32))))))
def L_X2_build_51 (k1 : Nat) (post : Dz → Prop) (rc_24 : Dz → Int32 → Int32 → Int32 → Prop) : Nat → Dz → Int32 → Int32 → Int32 → Int32 → Prop
  | 0 => fun _ _ _ _ _ => False
  | n + 1 => B_X2_build_51 k1 post rc_24 (L_X2_build_51 k1 post rc_24 n)
def B_X2_build_24 (k1 : Nat) (post : Dz → Prop) (rc_24 : Dz → Int32 → Int32 → Int32 → Prop) (σ : Dz) (y3 : Int32) (y4 : Int32) (y5 : Int32) : Prop := (((5040 : Int32) ≤ y5 → post σ) ∧ (¬ (5040 : Int32) ≤ y5 → (((gz_i σ 12 5) ≤ y4 → post σ) ∧ (¬ (gz_i σ 12 5) ≤ y4 → (∃ n, L_X2_build_51 k1 post rc_24 n σ y3 y5 (gz_i σ 12 5) y4)))))
def L_X2_build_24 (k1 : Nat) (post : Dz → Prop) : Nat → Dz → Int32 → Int32 → Int32 → Prop
  | 0 => fun _ _ _ _ => False
  | n + 1 => B_X2_build_24 k1 post  (L_X2_build_24 k1 post  n)
def P_X2_build (σ : Dz) (k1 : Nat) (x2 : Int32) (post : Dz → Prop) : Prop := (P_X2_listTurns σ k1 (fun (τ2 : Dz) => (P_X2_clear τ2 x2 (fun (r7 : Int32) (τ7 : Dz) => (P_X2_reach τ7 (1754760 : Int32) (0 : Int32) (fun (τ15 : Dz) => (∃ n, L_X2_build_24 k1 post  n τ15 r7 (0 : Int32) (0 : Int32))))))))
abbrev r_X2_build : Room := { frames := 3, cells := 0, slots := 0, locals := 69 }
def P_X2_levelOf (σ : Dz) (x1 : Int32) (post : Int32 → Prop) : Prop := (P_X3_rankOf x1 (fun (r1 : Int32) => ((r1 < 0 → post (-1 : Int32)) ∧ (¬ r1 < 0 → (((5040 : Int32) ≤ r1 → post (-1 : Int32)) ∧ (¬ (5040 : Int32) ≤ r1 → (vp_in r1 5040 ∧ post (gz_i σ 13 (r1).toNatClampNeg))))))))
abbrev r_X2_levelOf : Room := { frames := 2, cells := 0, slots := 0, locals := 46 }
def P_X2_size (σ : Dz) (post : Int32 → Prop) : Prop := post (gz_i σ 12 5)
abbrev r_X2_size : Room := { frames := 0, cells := 0, slots := 0, locals := 0 }
def P_X2_lastLevel (σ : Dz) (post : Int32 → Prop) : Prop := post (gz_i σ 12 6)
abbrev r_X2_lastLevel : Room := { frames := 0, cells := 0, slots := 0, locals := 0 }
def P_X2_sizeOfLevel (σ : Dz) (x1 : Int32) (post : Int32 → Prop) : Prop := ((x1 < 0 → post (0 : Int32)) ∧ (¬ x1 < 0 → (((gz_i σ 12 6) < x1 → post (0 : Int32)) ∧ (¬ (gz_i σ 12 6) < x1 → (vp_in (x1 + (1 : Int32)) 5041 ∧ (vp_in x1 5041 ∧ post ((gz_i σ 15 ((x1 + (1 : Int32))).toNatClampNeg) - (gz_i σ 15 (x1).toNatClampNeg))))))))
abbrev r_X2_sizeOfLevel : Room := { frames := 0, cells := 0, slots := 0, locals := 0 }
def B_X2_sumOfDepths_4 (σ : Dz) (post : Int32 → Prop) (rc_4 : Int32 → Int32 → Prop) (y1 : Int32) (y2 : Int32) : Prop := (((gz_i σ 12 6) < y2 → post y1) ∧ (¬ (gz_i σ 12 6) < y2 → (P_X2_sizeOfLevel σ y2 (fun (r16 : Int32) => rc_4 (y1 + (y2 * r16)) (y2 + 1)))))
def L_X2_sumOfDepths_4 (σ : Dz) (post : Int32 → Prop) : Nat → Int32 → Int32 → Prop
  | 0 => fun _ _ => False
  | n + 1 => B_X2_sumOfDepths_4 σ post  (L_X2_sumOfDepths_4 σ post  n)
def P_X2_sumOfDepths (σ : Dz) (post : Int32 → Prop) : Prop := (∃ n, L_X2_sumOfDepths_4 σ post  n (0 : Int32) (1 : Int32))
abbrev r_X2_sumOfDepths : Room := { frames := 1, cells := 0, slots := 0, locals := 21 }
def B_X3_inverseOf_4 (post : Int32 → Prop) (rc_4 : Int32 → Int32 → Int32 → Prop) (y0 : Int32) (y1 : Int32) (y2 : Int32) : Prop := (((7 : Int32) ≤ y2 → post y1) ∧ (¬ (7 : Int32) ≤ y2 → (P_X3_imageOf y0 y2 (fun (r15 : Int32) => rc_4 y0 (y1 ||| (y2 <<< (((3 : Int32) * r15) &&& 31))) (y2 + 1)))))
def L_X3_inverseOf_4 (post : Int32 → Prop) : Nat → Int32 → Int32 → Int32 → Prop
  | 0 => fun _ _ _ => False
  | n + 1 => B_X3_inverseOf_4 post  (L_X3_inverseOf_4 post  n)
def P_X3_inverseOf (x0 : Int32) (post : Int32 → Prop) : Prop := (∃ n, L_X3_inverseOf_4 post  n x0 (0 : Int32) (0 : Int32))
abbrev r_X3_inverseOf : Room := { frames := 1, cells := 0, slots := 0, locals := 21 }
def B_X3_differences_26 (post : Int32 → Prop) (rc_4 : Int32 → Int32 → Int32 → Int32 → Prop) (y0 : Int32) (y1 : Int32) (y2 : Int32) (y3 : Int32) : Prop := rc_4 y0 y1 y2 (y3 + 1)
def B_X3_differences_4 (post : Int32 → Prop) (rc_4 : Int32 → Int32 → Int32 → Int32 → Prop) (y0 : Int32) (y1 : Int32) (y2 : Int32) (y3 : Int32) : Prop := (((7 : Int32) ≤ y3 → post y2) ∧ (¬ (7 : Int32) ≤ y3 → (P_X3_imageOf y0 y3 (fun (r12 : Int32) => (P_X3_imageOf y1 y3 (fun (r17 : Int32) => ((r12 = r17 → B_X3_differences_26 post rc_4 y0 y1 y2 y3) ∧ (¬ r12 = r17 → B_X3_differences_26 post rc_4 y0 y1 (y2 + 1) y3))))))))
def L_X3_differences_4 (post : Int32 → Prop) : Nat → Int32 → Int32 → Int32 → Int32 → Prop
  | 0 => fun _ _ _ _ => False
  | n + 1 => B_X3_differences_4 post  (L_X3_differences_4 post  n)
def P_X3_differences (x0 : Int32) (x1 : Int32) (post : Int32 → Prop) : Prop := (∃ n, L_X3_differences_4 post  n x0 x1 (0 : Int32) (0 : Int32))
abbrev r_X3_differences : Room := { frames := 1, cells := 0, slots := 0, locals := 21 }
def B_X3_cycleOf_8 (post : Int32 → Prop) (rc_8 : Int32 → Int32 → Int32 → Int32 → Prop) (y0 : Int32) (y1 : Int32) (y2 : Int32) (y3 : Int32) : Prop := ((y3 = y1 → post y2) ∧ (¬ y3 = y1 → (((7 : Int32) ≤ y2 → post y2) ∧ (¬ (7 : Int32) ≤ y2 → (P_X3_imageOf y0 y3 (fun (r21 : Int32) => rc_8 y0 y1 (y2 + 1) r21))))))
def L_X3_cycleOf_8 (post : Int32 → Prop) : Nat → Int32 → Int32 → Int32 → Int32 → Prop
  | 0 => fun _ _ _ _ => False
  | n + 1 => B_X3_cycleOf_8 post  (L_X3_cycleOf_8 post  n)
def P_X3_cycleOf (x0 : Int32) (x1 : Int32) (post : Int32 → Prop) : Prop := (P_X3_imageOf x0 x1 (fun (r4 : Int32) => (∃ n, L_X3_cycleOf_8 post  n x0 x1 (1 : Int32) r4)))
abbrev r_X3_cycleOf : Room := { frames := 1, cells := 0, slots := 0, locals := 21 }
def B_X3_orderOf_4 (post : Int32 → Prop) (rc_4 : Int32 → Int32 → Int32 → Prop) (y0 : Int32) (y1 : Int32) (y2 : Int32) : Prop := ((y2 = (1754760 : Int32) → post y1) ∧ (¬ y2 = (1754760 : Int32) → (((12 : Int32) ≤ y1 → post y1) ∧ (¬ (12 : Int32) ≤ y1 → (P_X3_then y2 y0 (fun (r18 : Int32) => rc_4 y0 (y1 + 1) r18))))))
def L_X3_orderOf_4 (post : Int32 → Prop) : Nat → Int32 → Int32 → Int32 → Prop
  | 0 => fun _ _ _ => False
  | n + 1 => B_X3_orderOf_4 post  (L_X3_orderOf_4 post  n)
def P_X3_orderOf (x0 : Int32) (post : Int32 → Prop) : Prop := (∃ n, L_X3_orderOf_4 post  n x0 (1 : Int32) x0)
abbrev r_X3_orderOf : Room := { frames := 2, cells := 0, slots := 0, locals := 44 }
def B_X3_hasOddParity_6 (post : Int32 → Prop) (rc_6 : Int32 → Int32 → Int32 → Int32 → Prop) (y0 : Int32) (y1 : Int32) (y2 : Int32) (y3 : Int32) : Prop := (((7 : Int32) ≤ y3 → ((¬ (y2 &&& (1 : Int32)) = (1 : Int32) → post (0 : Int32)) ∧ ((y2 &&& (1 : Int32)) = (1 : Int32) → post (1 : Int32)))) ∧ (¬ (7 : Int32) ≤ y3 → (P_X3_imageOf y0 y3 (fun (r14 : Int32) => (P_J6_bitCount_0f7a4 (((y1).toUInt32 >>> ((r14).toUInt32 &&& Int32.toUInt32 31)).toInt32) (fun (r24 : Int32) => rc_6 y0 (y1 ||| ((1 : Int32) <<< (r14 &&& 31))) (y2 + r24) (y3 + 1)))))))
def L_X3_hasOddParity_6 (post : Int32 → Prop) : Nat → Int32 → Int32 → Int32 → Int32 → Prop
  | 0 => fun _ _ _ _ => False
  | n + 1 => B_X3_hasOddParity_6 post  (L_X3_hasOddParity_6 post  n)
def P_X3_hasOddParity (x0 : Int32) (post : Int32 → Prop) : Prop := (∃ n, L_X3_hasOddParity_6 post  n x0 (0 : Int32) (0 : Int32) (0 : Int32))
abbrev r_X3_hasOddParity : Room := { frames := 1, cells := 0, slots := 0, locals := 21 }
def B_X4_clear_35 (k : Nat) (post : Dz → Prop) (rc_35 : Dz → Int32 → Prop) (σ : Dz) (y1 : Int32) : Prop := (((4 : Int32) ≤ y1 → post σ) ∧ (¬ (4 : Int32) ≤ y1 → (vp_in y1 4 ∧ (P_X6_clear σ (k + 3 + 2 * (y1).toNatClampNeg) (fun (τ46 : Dz) => rc_35 τ46 (y1 + 1))))))
def L_X4_clear_35 (k : Nat) (post : Dz → Prop) : Nat → Dz → Int32 → Prop
  | 0 => fun _ _ => False
  | n + 1 => B_X4_clear_35 k post  (L_X4_clear_35 k post  n)
def B_X4_clear_2 (k : Nat) (post : Dz → Prop) (rc_2 : Dz → Int32 → Prop) (σ : Dz) (y1 : Int32) : Prop := (((10 : Int32) ≤ y1 → (∃ n, L_X4_clear_35 k post  n (sz_i (sz_i σ k 2 (0 : Int32)) k 3 (1754760 : Int32)) (0 : Int32))) ∧ (¬ (10 : Int32) ≤ y1 → (vp_in y1 10 ∧ rc_2 (sz_i σ (k + 1) (y1).toNatClampNeg (1754760 : Int32)) (y1 + 1))))
def L_X4_clear_2 (k : Nat) (post : Dz → Prop) : Nat → Dz → Int32 → Prop
  | 0 => fun _ _ => False
  | n + 1 => B_X4_clear_2 k post  (L_X4_clear_2 k post  n)
def P_X4_clear (σ : Dz) (k : Nat) (post : Dz → Prop) : Prop := (∃ n, L_X4_clear_2 k post  n σ (0 : Int32))
abbrev r_X4_clear : Room := { frames := 1, cells := 0, slots := 0, locals := 20 }
def B_X6_addPart_6 (w : Nat) (w1 : Nat) (post : Int32 → Dz → Prop) (rc_6 : Dz → Int32 → Int32 → Int32 → Prop) (σ : Dz) (y3 : Int32) (y4 : Int32) (y5 : Int32) : Prop := ((y4 = 0 → ((y4 = 0 ∨ y4 = 1) ∧ post y4 σ)) ∧ (¬ y4 = 0 → ((y3 ≤ y5 → ((y4 = 0 ∨ y4 = 1) ∧ post y4 σ)) ∧ (¬ y3 ≤ y5 → (P_X6_at σ w1 y5 (fun (r21 : Int32) => (P_X6_add σ w r21 (fun (r24 : Int32) (τ24 : Dz) => rc_6 τ24 y3 r24 (y5 + 1)))))))))
def L_X6_addPart_6 (w : Nat) (w1 : Nat) (post : Int32 → Dz → Prop) : Nat → Dz → Int32 → Int32 → Int32 → Prop
  | 0 => fun _ _ _ _ => False
  | n + 1 => B_X6_addPart_6 w w1 post  (L_X6_addPart_6 w w1 post  n)
def P_X6_addPart (σ : Dz) (w : Nat) (w1 : Nat) (x2 : Int32) (x3 : Int32) (post : Int32 → Dz → Prop) : Prop := (∃ n, L_X6_addPart_6 w w1 post  n σ x3 (1 : Int32) x2)
abbrev r_X6_addPart : Room := { frames := 1, cells := 0, slots := 0, locals := 21 }
def P_X6_addAll (σ : Dz) (w : Nat) (w1 : Nat) (post : Int32 → Dz → Prop) : Prop := (P_X6_length σ w1 (fun (r4 : Int32) => (P_X6_addPart σ w w1 (0 : Int32) r4 (fun (r7 : Int32) (τ7 : Dz) => ((r7 = 0 ∨ r7 = 1) ∧ post r7 τ7)))))
abbrev r_X6_addAll : Room := { frames := 2, cells := 0, slots := 0, locals := 46 }
def P_X6_copyFrom (σ : Dz) (w : Nat) (w1 : Nat) (post : Dz → Prop) : Prop := (P_X6_addAll (sz_i σ w 1 (0 : Int32)) w w1 (fun (r7 : Int32) (τ7 : Dz) => post τ7))
abbrev r_X6_copyFrom : Room := { frames := 3, cells := 0, slots := 0, locals := 67 }
def B_X4_copyFrom_44 (k : Nat) (k1 : Nat) (post : Dz → Prop) (rc_44 : Dz → Int32 → Prop) (σ : Dz) (y2 : Int32) : Prop := (((4 : Int32) ≤ y2 → post σ) ∧ (¬ (4 : Int32) ≤ y2 → (vp_in y2 4 ∧ (vp_in y2 4 ∧ (P_X6_copyFrom σ (k + 3 + 2 * (y2).toNatClampNeg) (k1 + 3 + 2 * (y2).toNatClampNeg) (fun (τ61 : Dz) => rc_44 τ61 (y2 + 1)))))))
def L_X4_copyFrom_44 (k : Nat) (k1 : Nat) (post : Dz → Prop) : Nat → Dz → Int32 → Prop
  | 0 => fun _ _ => False
  | n + 1 => B_X4_copyFrom_44 k k1 post  (L_X4_copyFrom_44 k k1 post  n)
def B_X4_copyFrom_2 (k : Nat) (k1 : Nat) (post : Dz → Prop) (rc_2 : Dz → Int32 → Prop) (σ : Dz) (y2 : Int32) : Prop := (((10 : Int32) ≤ y2 → (∃ n, L_X4_copyFrom_44 k k1 post  n (sz_i (sz_i σ k 2 (gz_i σ k1 2)) k 3 (gz_i (sz_i σ k 2 (gz_i σ k1 2)) k1 3)) (0 : Int32))) ∧ (¬ (10 : Int32) ≤ y2 → (vp_in y2 10 ∧ (vp_in y2 10 ∧ rc_2 (sz_i σ (k + 1) (y2).toNatClampNeg (gz_i σ (k1 + 1) (y2).toNatClampNeg)) (y2 + 1)))))
def L_X4_copyFrom_2 (k : Nat) (k1 : Nat) (post : Dz → Prop) : Nat → Dz → Int32 → Prop
  | 0 => fun _ _ => False
  | n + 1 => B_X4_copyFrom_2 k k1 post  (L_X4_copyFrom_2 k k1 post  n)
def P_X4_copyFrom (σ : Dz) (k : Nat) (k1 : Nat) (post : Dz → Prop) : Prop := (∃ n, L_X4_copyFrom_2 k k1 post  n σ (0 : Int32))
abbrev r_X4_copyFrom : Room := { frames := 4, cells := 0, slots := 0, locals := 88 }
def P_X4_places (σ : Dz) (k : Nat) (post : Int32 → Prop) : Prop := post (gz_i σ k 3)
abbrev r_X4_places : Room := { frames := 0, cells := 0, slots := 0, locals := 0 }
def P_X4_arrange (σ : Dz) (k : Nat) (x1 : Int32) (post : Dz → Prop) : Prop := post (sz_i σ k 3 x1)
abbrev r_X4_arrange : Room := { frames := 0, cells := 0, slots := 0, locals := 0 }
def P_X4_word (σ : Dz) (k : Nat) (x1 : Int32) (post : Nat → Prop) : Prop := ((x1 < 0 → (vp_in (0 : Int32) 4 ∧ post (k + 3 + 2 * ((0 : Int32)).toNatClampNeg))) ∧ (¬ x1 < 0 → (((4 : Int32) ≤ x1 → (vp_in (0 : Int32) 4 ∧ post (k + 3 + 2 * ((0 : Int32)).toNatClampNeg))) ∧ (¬ (4 : Int32) ≤ x1 → (vp_in x1 4 ∧ post (k + 3 + 2 * (x1).toNatClampNeg))))))
abbrev r_X4_word : Room := { frames := 0, cells := 0, slots := 0, locals := 0 }
def P_X4_defineMove (σ : Dz) (k : Nat) (x1 : Int32) (x2 : Int32) (post : Dz → Prop) : Prop := ((x1 < 0 → post σ) ∧ (¬ x1 < 0 → ((x1 < (5 : Int32) → (vp_in ((2 : Int32) * x1) 10 ∧ (P_X3_inverseOf x2 (fun (r29 : Int32) => (vp_in (((2 : Int32) * x1) + (1 : Int32)) 10 ∧ post (sz_i (sz_i (sz_i σ (k + 1) (((2 : Int32) * x1)).toNatClampNeg x2) (k + 1) ((((2 : Int32) * x1) + (1 : Int32))).toNatClampNeg r29) k 2 ((gz_i (sz_i (sz_i σ (k + 1) (((2 : Int32) * x1)).toNatClampNeg x2) (k + 1) ((((2 : Int32) * x1) + (1 : Int32))).toNatClampNeg r29) k 2) ||| ((1 : Int32) <<< (x1 &&& 31))))))))) ∧ (¬ x1 < (5 : Int32) → post σ))))
abbrev r_X4_defineMove : Room := { frames := 2, cells := 0, slots := 0, locals := 43 }
def P_X5_isName (x0 : Int32) (post : Int32 → Prop) : Prop := ((x0 < (97 : Int32) → post (0 : Int32)) ∧ (¬ x0 < (97 : Int32) → (((102 : Int32) ≤ x0 → post (0 : Int32)) ∧ (¬ (102 : Int32) ≤ x0 → post (1 : Int32)))))
abbrev r_X5_isName : Room := { frames := 0, cells := 0, slots := 0, locals := 0 }
def B_X4_definesNamesIn_36 (σ : Dz) (k : Nat) (post : Int32 → Prop) (rc_2 : Int32 → Prop) (y2 : Int32) : Prop := rc_2 (y2 + 1)
def B_X4_definesNamesIn_2 (σ : Dz) (k : Nat) (post : Int32 → Prop) (rc_2 : Int32 → Prop) (y2 : Int32) : Prop := (P_X5_length σ (fun (r4 : Int32) => ((r4 ≤ y2 → post (1 : Int32)) ∧ (¬ r4 ≤ y2 → (P_X5_at σ y2 (fun (r12 : Int32) => (P_X5_isName r12 (fun (r17 : Int32) => ((r17 = 0 → B_X4_definesNamesIn_36 σ k post rc_2 y2) ∧ (¬ r17 = 0 → (P_X4_isDefined σ k (r12 - (97 : Int32)) (fun (r28 : Int32) => ((¬ r28 = 0 → B_X4_definesNamesIn_36 σ k post rc_2 y2) ∧ (r28 = 0 → post (0 : Int32)))))))))))))))
def L_X4_definesNamesIn_2 (σ : Dz) (k : Nat) (post : Int32 → Prop) : Nat → Int32 → Prop
  | 0 => fun _ => False
  | n + 1 => B_X4_definesNamesIn_2 σ k post  (L_X4_definesNamesIn_2 σ k post  n)
def P_X4_definesNamesIn (σ : Dz) (k : Nat) (post : Int32 → Prop) : Prop := (∃ n, L_X4_definesNamesIn_2 σ k post  n (0 : Int32))
abbrev r_X4_definesNamesIn : Room := { frames := 1, cells := 0, slots := 0, locals := 21 }
def B_X4_effectOfWord_12 (σ : Dz) (k : Nat) (post : Int32 → Prop) (rc_12 : Nat → Int32 → Int32 → Prop) (v2 : Nat) (y3 : Int32) (y4 : Int32) : Prop := (P_X6_length σ v2 (fun (r15 : Int32) => ((r15 ≤ y4 → post y3) ∧ (¬ r15 ≤ y4 → (P_X6_at σ v2 y4 (fun (r26 : Int32) => (P_X4_effectOfLetter σ k r26 (fun (r29 : Int32) => (P_X3_then y3 r29 (fun (r32 : Int32) => rc_12 v2 r32 (y4 + 1)))))))))))
def L_X4_effectOfWord_12 (σ : Dz) (k : Nat) (post : Int32 → Prop) : Nat → Nat → Int32 → Int32 → Prop
  | 0 => fun _ _ _ => False
  | n + 1 => B_X4_effectOfWord_12 σ k post  (L_X4_effectOfWord_12 σ k post  n)
def P_X4_effectOfWord (σ : Dz) (k : Nat) (x1 : Int32) (post : Int32 → Prop) : Prop := (P_X4_word σ k x1 (fun (r2 : Nat) => (∃ n, L_X4_effectOfWord_12 σ k post  n r2 (1754760 : Int32) (0 : Int32))))
abbrev r_X4_effectOfWord : Room := { frames := 2, cells := 0, slots := 0, locals := 44 }
def B_X4_spread_46 (σ : Dz) (k : Nat) (post : Int32 → Prop) (rc_4 : Int32 → Int32 → Int32 → Prop) (rc_13 : Int32 → Int32 → Int32 → Int32 → Prop) (y1 : Int32) (y2 : Int32) (y3 : Int32) (y4 : Int32) : Prop := rc_13 y1 y2 y3 (y4 + 1)
def B_X4_spread_13 (σ : Dz) (k : Nat) (post : Int32 → Prop) (rc_4 : Int32 → Int32 → Int32 → Prop) (rc_13 : Int32 → Int32 → Int32 → Int32 → Prop) (y1 : Int32) (y2 : Int32) (y3 : Int32) (y4 : Int32) : Prop := (((7 : Int32) ≤ y4 → rc_4 y1 y2 (y3 + 1)) ∧ (¬ (7 : Int32) ≤ y4 → ((¬ (((y1).toUInt32 >>> ((y4).toUInt32 &&& Int32.toUInt32 31)).toInt32 &&& (1 : Int32)) = (1 : Int32) → B_X4_spread_46 σ k post rc_4 rc_13 y1 y2 y3 y4) ∧ ((((y1).toUInt32 >>> ((y4).toUInt32 &&& Int32.toUInt32 31)).toInt32 &&& (1 : Int32)) = (1 : Int32) → (vp_in y3 10 ∧ (P_X3_imageOf (gz_i σ (k + 1) (y3).toNatClampNeg) y4 (fun (r40 : Int32) => B_X4_spread_46 σ k post rc_4 rc_13 y1 (y2 ||| ((1 : Int32) <<< (r40 &&& 31))) y3 y4)))))))
def L_X4_spread_13 (σ : Dz) (k : Nat) (post : Int32 → Prop) (rc_4 : Int32 → Int32 → Int32 → Prop) : Nat → Int32 → Int32 → Int32 → Int32 → Prop
  | 0 => fun _ _ _ _ => False
  | n + 1 => B_X4_spread_13 σ k post rc_4 (L_X4_spread_13 σ k post rc_4 n)
def B_X4_spread_4 (σ : Dz) (k : Nat) (post : Int32 → Prop) (rc_4 : Int32 → Int32 → Int32 → Prop) (y1 : Int32) (y2 : Int32) (y3 : Int32) : Prop := (((10 : Int32) ≤ y3 → post y2) ∧ (¬ (10 : Int32) ≤ y3 → (∃ n, L_X4_spread_13 σ k post rc_4 n y1 y2 y3 (0 : Int32))))
def L_X4_spread_4 (σ : Dz) (k : Nat) (post : Int32 → Prop) : Nat → Int32 → Int32 → Int32 → Prop
  | 0 => fun _ _ _ => False
  | n + 1 => B_X4_spread_4 σ k post  (L_X4_spread_4 σ k post  n)
def P_X4_spread (σ : Dz) (k : Nat) (x1 : Int32) (post : Int32 → Prop) : Prop := (∃ n, L_X4_spread_4 σ k post  n x1 x1 (0 : Int32))
abbrev r_X4_spread : Room := { frames := 1, cells := 0, slots := 0, locals := 21 }
def P_X5_add (σ : Dz) (x1 : Int32) (post : Int32 → Dz → Prop) : Prop := (((gz_i σ 1 1) < (40 : Int32) → (narrow .char (.int x1) = .int x1 ∧ (vp_in (gz_i σ 1 1) 40 ∧ post (1 : Int32) (sz_i (sz_i σ 2 ((gz_i σ 1 1)).toNatClampNeg x1) 1 1 ((gz_i (sz_i σ 2 ((gz_i σ 1 1)).toNatClampNeg x1) 1 1) + (1 : Int32)))))) ∧ (¬ (gz_i σ 1 1) < (40 : Int32) → post (0 : Int32) σ))
abbrev r_X5_add : Room := { frames := 0, cells := 0, slots := 0, locals := 0 }
def P_X5_clear (σ : Dz) (post : Dz → Prop) : Prop := post (sz_i σ 1 1 (0 : Int32))
abbrev r_X5_clear : Room := { frames := 0, cells := 0, slots := 0, locals := 0 }
def P_X6_addInverseOf (σ : Dz) (w : Nat) (w1 : Nat) (post : Int32 → Dz → Prop) : Prop := (P_X6_length σ w1 (fun (r4 : Int32) => (P_X6_addInverseOfPart σ w w1 (0 : Int32) r4 (fun (r7 : Int32) (τ7 : Dz) => ((r7 = 0 ∨ r7 = 1) ∧ post r7 τ7)))))
abbrev r_X6_addInverseOf : Room := { frames := 2, cells := 0, slots := 0, locals := 46 }
def B_X6_repeatFrom_11 (w : Nat) (post : Int32 → Dz → Prop) (rc_11 : Dz → Int32 → Int32 → Int32 → Int32 → Int32 → Prop) (σ : Dz) (y1 : Int32) (y2 : Int32) (y3 : Int32) (y4 : Int32) (y5 : Int32) : Prop := ((y4 = 0 → ((y4 = 0 ∨ y4 = 1) ∧ post y4 σ)) ∧ (¬ y4 = 0 → ((y2 ≤ y5 → ((y4 = 0 ∨ y4 = 1) ∧ post y4 σ)) ∧ (¬ y2 ≤ y5 → (P_X6_addPart σ w w y1 y3 (fun (r26 : Int32) (τ26 : Dz) => rc_11 τ26 y1 y2 y3 r26 (y5 + 1)))))))
def L_X6_repeatFrom_11 (w : Nat) (post : Int32 → Dz → Prop) : Nat → Dz → Int32 → Int32 → Int32 → Int32 → Int32 → Prop
  | 0 => fun _ _ _ _ _ _ => False
  | n + 1 => B_X6_repeatFrom_11 w post  (L_X6_repeatFrom_11 w post  n)
def P_X6_repeatFrom (σ : Dz) (w : Nat) (x1 : Int32) (x2 : Int32) (post : Int32 → Dz → Prop) : Prop := (∃ n, L_X6_repeatFrom_11 w post  n σ x1 x2 (gz_i σ w 1) (1 : Int32) (1 : Int32))
abbrev r_X6_repeatFrom : Room := { frames := 2, cells := 0, slots := 0, locals := 46 }
def B_X6_invertFrom_14 (w : Nat) (post : Dz → Prop) (rc_14 : Dz → Int32 → Int32 → Prop) (σ : Dz) (y2 : Int32) (y3 : Int32) : Prop := ((y2 < y3 → post σ) ∧ (¬ y2 < y3 → (vp_in y2 200 ∧ (vp_in y3 200 ∧ (vp_in y2 200 ∧ (vp_in y3 200 ∧ rc_14 (sz_i (sz_i σ (w + 1) (y2).toNatClampNeg ((gz_i σ (w + 1) (y3).toNatClampNeg) ^^^ (1 : Int32))) (w + 1) (y3).toNatClampNeg ((gz_i σ (w + 1) (y2).toNatClampNeg) ^^^ (1 : Int32))) (y2 + (-1)) (y3 + 1)))))))
def L_X6_invertFrom_14 (w : Nat) (post : Dz → Prop) : Nat → Dz → Int32 → Int32 → Prop
  | 0 => fun _ _ _ => False
  | n + 1 => B_X6_invertFrom_14 w post  (L_X6_invertFrom_14 w post  n)
def P_X6_invertFrom (σ : Dz) (w : Nat) (x1 : Int32) (post : Dz → Prop) : Prop := ((0 ≤ x1 → (∃ n, L_X6_invertFrom_14 w post  n σ ((gz_i σ w 1) - (1 : Int32)) x1)) ∧ (¬ 0 ≤ x1 → post σ))
abbrev r_X6_invertFrom : Room := { frames := 0, cells := 0, slots := 0, locals := 0 }
def P_X7_begins (σ : Dz) (x1 : Int32) (post : Int32 → Dz → Prop) : Prop := (((gz_i σ 4 1) < 0 → post (0 : Int32) σ) ∧ (¬ (gz_i σ 4 1) < 0 → (((gz_i σ 4 1) < (6 : Int32) → (narrow .char (.int x1) = .int x1 ∧ (vp_in (gz_i σ 4 1) 6 ∧ post (1 : Int32) (sz_i (sz_i (sz_i σ 5 ((gz_i σ 4 1)).toNatClampNeg x1) 4 1 ((gz_i (sz_i σ 5 ((gz_i σ 4 1)).toNatClampNeg x1) 4 1) + (1 : Int32))) 4 2 (0 : Int32))))) ∧ (¬ (gz_i σ 4 1) < (6 : Int32) → post (0 : Int32) σ))))
abbrev r_X7_begins : Room := { frames := 0, cells := 0, slots := 0, locals := 0 }
def P_X7_ends (σ : Dz) (x1 : Int32) (post : Int32 → Dz → Prop) : Prop := (((gz_i σ 4 1) ≤ 0 → post (0 : Int32) σ) ∧ (¬ (gz_i σ 4 1) ≤ 0 → (((6 : Int32) < (gz_i σ 4 1) → post (0 : Int32) σ) ∧ (¬ (6 : Int32) < (gz_i σ 4 1) → (vp_in ((gz_i σ 4 1) - (1 : Int32)) 6 ∧ (((gz_i σ 5 (((gz_i σ 4 1) - (1 : Int32))).toNatClampNeg) = x1 → post (1 : Int32) (sz_i (sz_i σ 4 1 ((gz_i σ 4 1) - (1 : Int32))) 4 2 (2 : Int32))) ∧ (¬ (gz_i σ 5 (((gz_i σ 4 1) - (1 : Int32))).toNatClampNeg) = x1 → post (0 : Int32) σ)))))))
abbrev r_X7_ends : Room := { frames := 0, cells := 0, slots := 0, locals := 0 }
def B_X7_accepts_138 (post : Int32 → Dz → Prop) (σ : Dz) : Prop := post (0 : Int32) (sz_i σ 4 2 (0 : Int32))
def P_X7_accepts (σ : Dz) (x1 : Int32) (post : Int32 → Dz → Prop) : Prop := (P_X5_isName x1 (fun (r1 : Int32) => ((r1 = 0 → ((x1 = (40 : Int32) → (P_X7_begins σ x1 (fun (r28 : Int32) (τ28 : Dz) => ((r28 = 0 ∨ r28 = 1) ∧ post r28 τ28)))) ∧ (¬ x1 = (40 : Int32) → ((¬ x1 = (60 : Int32) → ((¬ x1 = (41 : Int32) → ((¬ x1 = (62 : Int32) → ((¬ x1 = (44 : Int32) → ((¬ x1 = (39 : Int32) → (((gz_i σ 4 2) = 0 → B_X7_accepts_138 post  σ) ∧ (¬ (gz_i σ 4 2) = 0 → ((x1 < (50 : Int32) → B_X7_accepts_138 post  σ) ∧ (¬ x1 < (50 : Int32) → (((57 : Int32) < x1 → B_X7_accepts_138 post  σ) ∧ (¬ (57 : Int32) < x1 → post (1 : Int32) (sz_i σ 4 2 (0 : Int32))))))))) ∧ (x1 = (39 : Int32) → ((¬ (gz_i σ 4 2) = (2 : Int32) → post (0 : Int32) (sz_i σ 4 2 (1 : Int32))) ∧ ((gz_i σ 4 2) = (2 : Int32) → post (1 : Int32) (sz_i σ 4 2 (1 : Int32))))))) ∧ (x1 = (44 : Int32) → (P_X7_ends σ (60 : Int32) (fun (r67 : Int32) (τ67 : Dz) => ((r67 = 0 → post (0 : Int32) τ67) ∧ (¬ r67 = 0 → (P_X7_begins τ67 (44 : Int32) (fun (r76 : Int32) (τ76 : Dz) => ((r76 = 0 → post (0 : Int32) τ76) ∧ (¬ r76 = 0 → post (1 : Int32) τ76))))))))))) ∧ (x1 = (62 : Int32) → (P_X7_ends σ (44 : Int32) (fun (r54 : Int32) (τ54 : Dz) => ((r54 = 0 ∨ r54 = 1) ∧ post r54 τ54)))))) ∧ (x1 = (41 : Int32) → (P_X7_ends σ (40 : Int32) (fun (r41 : Int32) (τ41 : Dz) => ((r41 = 0 ∨ r41 = 1) ∧ post r41 τ41)))))) ∧ (x1 = (60 : Int32) → (P_X7_begins σ x1 (fun (r28 : Int32) (τ28 : Dz) => ((r28 = 0 ∨ r28 = 1) ∧ post r28 τ28)))))))) ∧ (¬ r1 = 0 → post (1 : Int32) (sz_i σ 4 2 (2 : Int32))))))
abbrev r_X7_accepts : Room := { frames := 1, cells := 0, slots := 0, locals := 21 }
def B_X7_errorIn_12 (post : Int32 → Dz → Prop) (rc_12 : Dz → Int32 → Prop) (σ : Dz) (y2 : Int32) : Prop := (P_X5_length σ (fun (r14 : Int32) => ((r14 ≤ y2 → (((gz_i σ 4 1) ≤ 0 → post (-1 : Int32) σ) ∧ (¬ (gz_i σ 4 1) ≤ 0 → (P_X5_length σ (fun (r48 : Int32) => post r48 σ))))) ∧ (¬ r14 ≤ y2 → (P_X5_at σ y2 (fun (r23 : Int32) => (P_X7_accepts σ r23 (fun (r26 : Int32) (τ26 : Dz) => ((¬ r26 = 0 → rc_12 τ26 (y2 + 1)) ∧ (r26 = 0 → post y2 τ26))))))))))
def L_X7_errorIn_12 (post : Int32 → Dz → Prop) : Nat → Dz → Int32 → Prop
  | 0 => fun _ _ => False
  | n + 1 => B_X7_errorIn_12 post  (L_X7_errorIn_12 post  n)
def P_X7_errorIn (σ : Dz) (post : Int32 → Dz → Prop) : Prop := (∃ n, L_X7_errorIn_12 post  n (sz_i (sz_i σ 4 1 (0 : Int32)) 4 2 (0 : Int32)) (0 : Int32))
abbrev r_X7_errorIn : Room := { frames := 2, cells := 0, slots := 0, locals := 43 }
def P_X8_begin (σ : Dz) (x1 : Int32) (post : Int32 → Dz → Prop) : Prop := (((gz_i σ 6 2) < 0 → post (0 : Int32) σ) ∧ (¬ (gz_i σ 6 2) < 0 → (((gz_i σ 6 2) < (6 : Int32) → (vp_in (gz_i σ 6 2) 6 ∧ post (1 : Int32) (sz_i (sz_i σ 7 ((gz_i σ 6 2)).toNatClampNeg x1) 6 2 ((gz_i (sz_i σ 7 ((gz_i σ 6 2)).toNatClampNeg x1) 6 2) + (1 : Int32))))) ∧ (¬ (gz_i σ 6 2) < (6 : Int32) → post (0 : Int32) σ))))
abbrev r_X8_begin : Room := { frames := 0, cells := 0, slots := 0, locals := 0 }
def P_X8_divide (σ : Dz) (x1 : Int32) (post : Int32 → Dz → Prop) : Prop := (((gz_i σ 6 2) ≤ 0 → post (0 : Int32) σ) ∧ (¬ (gz_i σ 6 2) ≤ 0 → (((gz_i σ 6 2) ≤ (6 : Int32) → (vp_in ((gz_i σ 6 2) - (1 : Int32)) 6 ∧ post (1 : Int32) (sz_i σ 8 (((gz_i σ 6 2) - (1 : Int32))).toNatClampNeg x1))) ∧ (¬ (gz_i σ 6 2) ≤ (6 : Int32) → post (0 : Int32) σ))))
abbrev r_X8_divide : Room := { frames := 0, cells := 0, slots := 0, locals := 0 }
def P_X8_end (σ : Dz) (w2 : Nat) (x1 : Int32) (post : Int32 → Dz → Prop) : Prop := (((gz_i σ 6 2) ≤ 0 → post (0 : Int32) σ) ∧ (¬ (gz_i σ 6 2) ≤ 0 → (((gz_i σ 6 2) ≤ (6 : Int32) → (vp_in (gz_i (sz_i σ 6 2 ((gz_i σ 6 2) - (1 : Int32))) 6 2) 6 ∧ ((x1 = 0 → post (1 : Int32) (sz_i (sz_i σ 6 2 ((gz_i σ 6 2) - (1 : Int32))) 6 3 (gz_i (sz_i σ 6 2 ((gz_i σ 6 2) - (1 : Int32))) 7 ((gz_i (sz_i σ 6 2 ((gz_i σ 6 2) - (1 : Int32))) 6 2)).toNatClampNeg))) ∧ (¬ x1 = 0 → (vp_in (gz_i (sz_i (sz_i σ 6 2 ((gz_i σ 6 2) - (1 : Int32))) 6 3 (gz_i (sz_i σ 6 2 ((gz_i σ 6 2) - (1 : Int32))) 7 ((gz_i (sz_i σ 6 2 ((gz_i σ 6 2) - (1 : Int32))) 6 2)).toNatClampNeg)) 6 2) 6 ∧ (vp_in (gz_i (sz_i (sz_i σ 6 2 ((gz_i σ 6 2) - (1 : Int32))) 6 3 (gz_i (sz_i σ 6 2 ((gz_i σ 6 2) - (1 : Int32))) 7 ((gz_i (sz_i σ 6 2 ((gz_i σ 6 2) - (1 : Int32))) 6 2)).toNatClampNeg)) 6 2) 6 ∧ (P_X6_closeCommutator (sz_i (sz_i σ 6 2 ((gz_i σ 6 2) - (1 : Int32))) 6 3 (gz_i (sz_i σ 6 2 ((gz_i σ 6 2) - (1 : Int32))) 7 ((gz_i (sz_i σ 6 2 ((gz_i σ 6 2) - (1 : Int32))) 6 2)).toNatClampNeg)) w2 (gz_i (sz_i (sz_i σ 6 2 ((gz_i σ 6 2) - (1 : Int32))) 6 3 (gz_i (sz_i σ 6 2 ((gz_i σ 6 2) - (1 : Int32))) 7 ((gz_i (sz_i σ 6 2 ((gz_i σ 6 2) - (1 : Int32))) 6 2)).toNatClampNeg)) 7 ((gz_i (sz_i (sz_i σ 6 2 ((gz_i σ 6 2) - (1 : Int32))) 6 3 (gz_i (sz_i σ 6 2 ((gz_i σ 6 2) - (1 : Int32))) 7 ((gz_i (sz_i σ 6 2 ((gz_i σ 6 2) - (1 : Int32))) 6 2)).toNatClampNeg)) 6 2)).toNatClampNeg) (gz_i (sz_i (sz_i σ 6 2 ((gz_i σ 6 2) - (1 : Int32))) 6 3 (gz_i (sz_i σ 6 2 ((gz_i σ 6 2) - (1 : Int32))) 7 ((gz_i (sz_i σ 6 2 ((gz_i σ 6 2) - (1 : Int32))) 6 2)).toNatClampNeg)) 8 ((gz_i (sz_i (sz_i σ 6 2 ((gz_i σ 6 2) - (1 : Int32))) 6 3 (gz_i (sz_i σ 6 2 ((gz_i σ 6 2) - (1 : Int32))) 7 ((gz_i (sz_i σ 6 2 ((gz_i σ 6 2) - (1 : Int32))) 6 2)).toNatClampNeg)) 6 2)).toNatClampNeg) (fun (r67 : Int32) (τ67 : Dz) => ((r67 = 0 → post (0 : Int32) τ67) ∧ (¬ r67 = 0 → post (1 : Int32) τ67)))))))))) ∧ (¬ (gz_i σ 6 2) ≤ (6 : Int32) → post (0 : Int32) σ))))
abbrev r_X8_end : Room := { frames := 3, cells := 0, slots := 0, locals := 69 }
def B_X8_writeNext_74 (w2 : Nat) (post : Int32 → Dz → Prop) (σ : Dz) (y1 : Int32) : Prop := ((¬ y1 = (62 : Int32) → (P_X8_end σ w2 (0 : Int32) (fun (r87 : Int32) (τ87 : Dz) => ((r87 = 0 ∨ r87 = 1) ∧ post r87 τ87)))) ∧ (y1 = (62 : Int32) → (P_X8_end σ w2 (1 : Int32) (fun (r87 : Int32) (τ87 : Dz) => ((r87 = 0 ∨ r87 = 1) ∧ post r87 τ87)))))
def P_X8_writeNext (σ : Dz) (w2 : Nat) (x1 : Int32) (post : Int32 → Dz → Prop) : Prop := (P_X5_isName x1 (fun (r1 : Int32) => ((r1 = 0 → ((x1 = (40 : Int32) → (P_X6_length σ w2 (fun (r40 : Int32) => (P_X8_begin σ r40 (fun (r43 : Int32) (τ43 : Dz) => ((r43 = 0 ∨ r43 = 1) ∧ post r43 τ43)))))) ∧ (¬ x1 = (40 : Int32) → ((¬ x1 = (60 : Int32) → ((¬ x1 = (44 : Int32) → ((x1 = (41 : Int32) → B_X8_writeNext_74 w2 post  σ x1) ∧ (¬ x1 = (41 : Int32) → ((¬ x1 = (62 : Int32) → ((¬ x1 = (39 : Int32) → (P_X6_repeatFrom σ w2 (gz_i σ 6 3) (x1 - (48 : Int32)) (fun (r116 : Int32) (τ116 : Dz) => ((r116 = 0 ∨ r116 = 1) ∧ post r116 τ116)))) ∧ (x1 = (39 : Int32) → (P_X6_invertFrom σ w2 (gz_i σ 6 3) (fun (τ102 : Dz) => post (1 : Int32) τ102))))) ∧ (x1 = (62 : Int32) → B_X8_writeNext_74 w2 post  σ x1))))) ∧ (x1 = (44 : Int32) → (P_X6_length σ w2 (fun (r55 : Int32) => (P_X8_divide σ r55 (fun (r58 : Int32) (τ58 : Dz) => ((r58 = 0 ∨ r58 = 1) ∧ post r58 τ58)))))))) ∧ (x1 = (60 : Int32) → (P_X6_length σ w2 (fun (r40 : Int32) => (P_X8_begin σ r40 (fun (r43 : Int32) (τ43 : Dz) => ((r43 = 0 ∨ r43 = 1) ∧ post r43 τ43)))))))))) ∧ (¬ r1 = 0 → (P_X6_length σ w2 (fun (r9 : Int32) => (P_X6_add (sz_i σ 6 3 r9) w2 ((2 : Int32) * (x1 - (97 : Int32))) (fun (r22 : Int32) (τ22 : Dz) => ((r22 = 0 ∨ r22 = 1) ∧ post r22 τ22)))))))))
abbrev r_X8_writeNext : Room := { frames := 4, cells := 0, slots := 0, locals := 91 }
def B_X8_write_19 (w2 : Nat) (post : Int32 → Dz → Prop) (rc_19 : Dz → Int32 → Int32 → Prop) (σ : Dz) (y3 : Int32) (y4 : Int32) : Prop := ((y3 = 0 → ((y3 = 0 ∨ y3 = 1) ∧ post y3 σ)) ∧ (¬ y3 = 0 → (P_X5_length σ (fun (r26 : Int32) => ((r26 ≤ y4 → ((y3 = 0 ∨ y3 = 1) ∧ post y3 σ)) ∧ (¬ r26 ≤ y4 → (P_X5_at σ y4 (fun (r36 : Int32) => (P_X8_writeNext σ w2 r36 (fun (r40 : Int32) (τ40 : Dz) => rc_19 τ40 r40 (y4 + 1)))))))))))
def L_X8_write_19 (w2 : Nat) (post : Int32 → Dz → Prop) : Nat → Dz → Int32 → Int32 → Prop
  | 0 => fun _ _ _ => False
  | n + 1 => B_X8_write_19 w2 post  (L_X8_write_19 w2 post  n)
def P_X8_write (σ : Dz) (w2 : Nat) (post : Int32 → Dz → Prop) : Prop := (P_X6_clear σ w2 (fun (τ1 : Dz) => (∃ n, L_X8_write_19 w2 post  n (sz_i (sz_i τ1 6 2 (0 : Int32)) 6 3 (0 : Int32)) (1 : Int32) (0 : Int32))))
abbrev r_X8_write : Room := { frames := 5, cells := 0, slots := 0, locals := 113 }
