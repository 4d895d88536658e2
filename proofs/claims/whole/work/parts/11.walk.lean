/-! walks. Written by wip/whole/genall.py -/
set_option maxRecDepth 100000 in
set_option maxHeartbeats 4000000 in
theorem c_X4_isDefined {l : Launch} {D : va_G} {ad : Nat → Nat} {ty : Nat → ClassId} (hl : l.stackTraces = false) (hj : ∀ i j, i < 68 → j < 68 → ad i = ad j → i = j) {σ : Dz} {k : Nat} (hk : isS k) {x1 : Int32} {post : Int32 → Prop} (hp : P_X4_isDefined σ k x1 post) : Mz l D ad ty yX4_isDefined cX4_isDefined 2 (some .boolean) r_X4_isDefined nI0 σ [.ref (ad k), .int x1] (fun r τ => σ = τ ∧ post r) (fun _ _ => False) := by
  refine mz_of (by decide) hl hj (Nat.le_of_ble_eq_true rfl) ?_
  intro p e s m args below meth c K hex hr
  unfold P_X4_isDefined at hp
  show Gz p l e r_X4_isDefined s m args below meth c D ad ty 2 0 0 (Ez below D ad ty nI0 (fun r τ => σ = τ ∧ post r) (fun _ _ => False) args s 0 0) σ 0 [(0, .ref (ad k)), (1, .int x1)] []
  refine gz_aload_n K dX4_isDefined_0 0 rfl ?_
  refine gz_get K (v := .int (gz_i σ k 2)) (ceS hk).1 ((ceS hk).2 _ _ _ _ _ _) rfl inz_X4 2 (by decide) zq1_189 rfl dX4_isDefined_1 ?_
  refine gz_iload_n K dX4_isDefined_4 1 rfl ?_
  refine gz_iushr K dX4_isDefined_5 ?_
  refine gz_iconst K (v := (1 : Int32)) dX4_isDefined_6 (by decide) ?_
  refine gz_iand K dX4_isDefined_7 ?_
  refine gz_iconst K (v := (1 : Int32)) dX4_isDefined_8 (by decide) ?_
  refine gz_icmp_ne K 16 dX4_isDefined_9 (by decide) (fun h => ?_) (fun h => ?_)
  · have hp := hp.1 h
    refine gz_iconst K (v := (0 : Int32)) dX4_isDefined_16 (by decide) ?_
    exact gz_zret K hr (by decide) ⟨rfl, hp⟩ dX4_isDefined_17 (Nat.le_of_ble_eq_true rfl) (Nat.le_of_ble_eq_true rfl)
  · have hp := hp.2 h
    refine gz_iconst K (v := (1 : Int32)) dX4_isDefined_12 (by decide) ?_
    refine gz_goto K 17 dX4_isDefined_13 (by decide) ?_
    exact gz_zret K hr (by decide) ⟨rfl, hp⟩ dX4_isDefined_17 (Nat.le_of_ble_eq_true rfl) (Nat.le_of_ble_eq_true rfl)
set_option maxRecDepth 100000 in
set_option maxHeartbeats 4000000 in
theorem c_X4_effectOfLetter {l : Launch} {D : va_G} {ad : Nat → Nat} {ty : Nat → ClassId} (hl : l.stackTraces = false) (hj : ∀ i j, i < 68 → j < 68 → ad i = ad j → i = j) {σ : Dz} {k : Nat} (hk : isS k) {x1 : Int32} {post : Int32 → Prop} (hp : P_X4_effectOfLetter σ k x1 post) : Mz l D ad ty yX4_effectOfLetter cX4_effectOfLetter 2 (some .int) r_X4_effectOfLetter nI0 σ [.ref (ad k), .int x1] (fun r τ => σ = τ ∧ post r) (fun _ _ => False) := by
  refine mz_of (by decide) hl hj (Nat.le_of_ble_eq_true rfl) ?_
  intro p e s m args below meth c K hex hr
  unfold P_X4_effectOfLetter at hp
  show Gz p l e r_X4_effectOfLetter s m args below meth c D ad ty 2 0 0 (Ez below D ad ty nI0 (fun r τ => σ = τ ∧ post r) (fun _ _ => False) args s 0 0) σ 0 [(0, .ref (ad k)), (1, .int x1)] []
  refine gz_iload_n K dX4_effectOfLetter_0 1 rfl ?_
  refine gz_if_lt K 19 dX4_effectOfLetter_1 (by decide) (fun h => ?_) (fun h => ?_)
  · have hp := hp.1 h
    refine gz_ldc K zq1_166 dX4_effectOfLetter_19 ?_
    exact gz_iret K hr ⟨rfl, hp⟩ dX4_effectOfLetter_21 (Nat.le_of_ble_eq_true rfl) (Nat.le_of_ble_eq_true rfl)
  · have hp := hp.2 h
    refine gz_iload_n K dX4_effectOfLetter_4 1 rfl ?_
    refine gz_bipush K (v := (10 : Int32)) dX4_effectOfLetter_5 (by decide) ?_
    refine gz_icmp_ge K 19 dX4_effectOfLetter_7 (by decide) (fun h => ?_) (fun h => ?_)
    · have hp := hp.1 h
      refine gz_ldc K zq1_166 dX4_effectOfLetter_19 ?_
      exact gz_iret K hr ⟨rfl, hp⟩ dX4_effectOfLetter_21 (Nat.le_of_ble_eq_true rfl) (Nat.le_of_ble_eq_true rfl)
    · have hp := hp.2 h
      refine gz_aload_n K dX4_effectOfLetter_10 0 rfl ?_
      refine gz_get K (v := .ref (ad (k + 1))) (ceS hk).1 ((ceS hk).2 _ _ _ _ _ _) rfl inz_X4 0 (by decide) zq1_187 rfl dX4_effectOfLetter_11 ?_
      refine gz_iload_n K dX4_effectOfLetter_14 1 rfl ?_
      obtain ⟨h, hp⟩ := hp
      refine gz_iald K (caS hk).1 ((caS hk).2 _ _ _ _ _ _) h dX4_effectOfLetter_15 ?_
      refine gz_goto K 21 dX4_effectOfLetter_16 (by decide) ?_
      exact gz_iret K hr ⟨rfl, hp⟩ dX4_effectOfLetter_21 (Nat.le_of_ble_eq_true rfl) (Nat.le_of_ble_eq_true rfl)
set_option maxRecDepth 100000 in
set_option maxHeartbeats 4000000 in
theorem c_X3_imageOf {l : Launch} {D : va_G} {ad : Nat → Nat} {ty : Nat → ClassId} (hl : l.stackTraces = false) (hj : ∀ i j, i < 68 → j < 68 → ad i = ad j → i = j) {σ : Dz} {x0 : Int32} {x1 : Int32} {post : Int32 → Prop} (hp : P_X3_imageOf x0 x1 post) : Mz l D ad ty yX3_imageOf cX3_imageOf 2 (some .int) r_X3_imageOf nI0 σ [.int x0, .int x1] (fun r τ => σ = τ ∧ post r) (fun _ _ => False) := by
  refine mz_of (by decide) hl hj (Nat.le_of_ble_eq_true rfl) ?_
  intro p e s m args below meth c K hex hr
  unfold P_X3_imageOf at hp
  show Gz p l e r_X3_imageOf s m args below meth c D ad ty 2 0 0 (Ez below D ad ty nI0 (fun r τ => σ = τ ∧ post r) (fun _ _ => False) args s 0 0) σ 0 [(0, .int x0), (1, .int x1)] []
  refine gz_iload_n K dX3_imageOf_0 0 rfl ?_
  refine gz_iconst K (v := (3 : Int32)) dX3_imageOf_1 (by decide) ?_
  refine gz_iload_n K dX3_imageOf_2 1 rfl ?_
  refine gz_imul K dX3_imageOf_3 ?_
  refine gz_iushr K dX3_imageOf_4 ?_
  refine gz_bipush K (v := (7 : Int32)) dX3_imageOf_5 (by decide) ?_
  refine gz_iand K dX3_imageOf_7 ?_
  exact gz_iret K hr ⟨rfl, hp⟩ dX3_imageOf_8 (Nat.le_of_ble_eq_true rfl) (Nat.le_of_ble_eq_true rfl)
set_option maxRecDepth 100000 in
set_option maxHeartbeats 4000000 in
theorem c_X3_then {l : Launch} {D : va_G} {ad : Nat → Nat} {ty : Nat → ClassId} (hl : l.stackTraces = false) (hj : ∀ i j, i < 68 → j < 68 → ad i = ad j → i = j) {σ : Dz} {x0 : Int32} {x1 : Int32} {post : Int32 → Prop} (hp : P_X3_then x0 x1 post) : Mz l D ad ty yX3_then cX3_then 4 (some .int) r_X3_then nI0 σ [.int x0, .int x1] (fun r τ => σ = τ ∧ post r) (fun _ _ => False) := by
  refine mz_of (by decide) hl hj (Nat.le_of_ble_eq_true rfl) ?_
  intro p e s m args below meth c K hex hr
  unfold P_X3_then at hp
  show Gz p l e r_X3_then s m args below meth c D ad ty 4 0 0 (Ez below D ad ty nI0 (fun r τ => σ = τ ∧ post r) (fun _ _ => False) args s 0 0) σ 0 [(0, .int x0), (1, .int x1)] []
  refine gz_iconst K (v := (0 : Int32)) dX3_then_0 (by decide) ?_
  refine gz_istore_n K [(2, .int (0 : Int32)), (0, .int x0), (1, .int x1)] dX3_then_1 (by decide) rfl ?_
  refine gz_iconst K (v := (0 : Int32)) dX3_then_2 (by decide) ?_
  refine gz_istore_n K [(3, .int (0 : Int32)), (2, .int (0 : Int32)), (0, .int x0), (1, .int x1)] dX3_then_3 (by decide) rfl ?_
  refine gz_sub [2, 3, 1, 0] rfl ?_
  have ll_4 : ∀ (n_4 : Nat) (y0 : Int32) (y1 : Int32) (y2 : Int32) (y3 : Int32) , L_X3_then_4 post  n_4 y0 y1 y2 y3 → Gz p l e r_X3_then s m args below meth c D ad ty 4 0 0 (Ez below D ad ty nI0 (fun r τ => σ = τ ∧ post r) (fun _ _ => False) args s 0 0) σ 4 [(0, .int y0), (1, .int y1), (2, .int y2), (3, .int y3)] [] := by
    intro n_4; induction n_4 with
    | zero => intro y0 y1 y2 y3 hp; exact False.elim hp
    | succ n_4 ih_4 =>
      intro y0 y1 y2 y3 hp
      have hp : B_X3_then_4 post  (L_X3_then_4 post  n_4) y0 y1 y2 y3 := hp
      unfold B_X3_then_4 at hp
      refine gz_iload_n K dX3_then_4 3 rfl ?_
      refine gz_bipush K (v := (7 : Int32)) dX3_then_5 (by decide) ?_
      refine gz_icmp_ge K 32 dX3_then_7 (by decide) (fun h => ?_) (fun h => ?_)
      · have hp := hp.1 h
        refine gz_iload_n K dX3_then_32 2 rfl ?_
        exact gz_iret K hr ⟨rfl, hp⟩ dX3_then_33 (Nat.le_of_ble_eq_true rfl) (Nat.le_of_ble_eq_true rfl)
      · have hp := hp.2 h
        refine gz_iload_n K dX3_then_10 2 rfl ?_
        refine gz_iload_n K dX3_then_11 1 rfl ?_
        refine gz_iload_n K dX3_then_12 0 rfl ?_
        refine gz_iload_n K dX3_then_13 3 rfl ?_
        refine gz_callS K hex (c_X3_imageOf K.2.2.2.2.2 K.2.2.1 hp) cf_X3_imageOf zq2_50 dX3_then_14 rfl rfl (Nat.le_of_ble_eq_true rfl) ⟨Nat.le_of_ble_eq_true rfl, Nat.le_of_ble_eq_true rfl⟩ ⟨Nat.le_of_ble_eq_true rfl, Nat.le_of_ble_eq_true rfl⟩ (Nat.le_of_ble_eq_true rfl) (Nat.le_of_ble_eq_true rfl) (fun _ _ h => h.elim) (fun r14 τ hp => ?_)
        obtain ⟨rfl, hp⟩ := hp
        refine gz_norm (st' := [.int r14, .int y1, .int y2]) (cells' := 0) (slots' := 0) rfl rfl rfl ?_
        refine gz_callS K hex (c_X3_imageOf K.2.2.2.2.2 K.2.2.1 hp) cf_X3_imageOf zq2_50 dX3_then_17 rfl rfl (Nat.le_of_ble_eq_true rfl) ⟨Nat.le_of_ble_eq_true rfl, Nat.le_of_ble_eq_true rfl⟩ ⟨Nat.le_of_ble_eq_true rfl, Nat.le_of_ble_eq_true rfl⟩ (Nat.le_of_ble_eq_true rfl) (Nat.le_of_ble_eq_true rfl) (fun _ _ h => h.elim) (fun r17 τ hp => ?_)
        obtain ⟨rfl, hp⟩ := hp
        refine gz_norm (st' := [.int r17, .int y2]) (cells' := 0) (slots' := 0) rfl rfl rfl ?_
        refine gz_iconst K (v := (3 : Int32)) dX3_then_20 (by decide) ?_
        refine gz_iload_n K dX3_then_21 3 rfl ?_
        refine gz_imul K dX3_then_22 ?_
        refine gz_ishl K dX3_then_23 ?_
        refine gz_ior K dX3_then_24 ?_
        refine gz_istore_n K [(2, .int (y2 ||| (r17 <<< (((3 : Int32) * y3) &&& 31)))), (0, .int y0), (1, .int y1), (3, .int y3)] dX3_then_25 (by decide) rfl ?_
        refine gz_iinc K (v := (y3 + 1)) [(3, .int (y3 + 1)), (2, .int (y2 ||| (r17 <<< (((3 : Int32) * y3) &&& 31)))), (0, .int y0), (1, .int y1)] dX3_then_26 3 rfl (by first | rfl | decide) (by decide) rfl ?_
        refine gz_goto K 4 dX3_then_29 (by decide) ?_
        refine gz_sub [2, 3, 1, 0] rfl ?_
        exact ih_4 y0 y1 (y2 ||| (r17 <<< (((3 : Int32) * y3) &&& 31))) (y3 + 1)  hp
  obtain ⟨n, hp⟩ := hp
  exact ll_4 n x0 x1 (0 : Int32) (0 : Int32)  hp
set_option maxRecDepth 100000 in
set_option maxHeartbeats 4000000 in
theorem c_X0_listWords {l : Launch} {D : va_G} {ad : Nat → Nat} {ty : Nat → ClassId} (hl : l.stackTraces = false) (hj : ∀ i j, i < 68 → j < 68 → ad i = ad j → i = j) {σ : Dz} {k1 : Nat} (h1 : isS k1) {post : Dz → Prop} (hp : P_X0_listWords σ k1 post) : Mz l D ad ty yX0_listWords cX0_listWords 5 none r_X0_listWords nV0 σ [.ref (ad 9), .ref (ad k1)] (fun _ τ => post τ) (fun _ _ => False) := by
  refine mz_of (by decide) hl hj (Nat.le_of_ble_eq_true rfl) ?_
  intro p e s m args below meth c K hex hr
  unfold P_X0_listWords at hp
  show Gz p l e r_X0_listWords s m args below meth c D ad ty 5 0 0 (Ez below D ad ty nV0 (fun _ τ => post τ) (fun _ _ => False) args s 0 0) σ 0 [(0, .ref (ad 9)), (1, .ref (ad k1))] []
  refine gz_aload_n K dX0_listWords_0 0 rfl ?_
  refine gz_iconst K (v := (0 : Int32)) dX0_listWords_1 (by decide) ?_
  refine gz_put K (x := (0 : Int32)) (by decide) (ce_9 _ _ _ _ _ _) rfl inz_X0 tyX0 tyX0_ok nmX0 2 (by decide) zq1_116 rfl (tyX0_ok _ (by decide)) rfl rfl (Nat.le_of_ble_eq_true rfl) peX0_2 dX0_listWords_2 ?_
  refine gz_iconst K (v := (0 : Int32)) dX0_listWords_5 (by decide) ?_
  refine gz_istore_n K [(2, .int (0 : Int32)), (0, .ref (ad 9)), (1, .ref (ad k1))] dX0_listWords_6 (by decide) rfl ?_
  refine gz_sub [1, 2, 0] rfl ?_
  have ll_7 : ∀ (n_7 : Nat) (σ : Dz) (y2 : Int32) , L_X0_listWords_7 k1 post  n_7 σ y2 → Gz p l e r_X0_listWords s m args below meth c D ad ty 5 0 0 (Ez below D ad ty nV0 (fun _ τ => post τ) (fun _ _ => False) args s 0 0) σ 7 [(0, .ref (ad 9)), (1, .ref (ad k1)), (2, .int y2)] [] := by
    intro n_7; induction n_7 with
    | zero => intro σ y2 hp; exact False.elim hp
    | succ n_7 ih_7 =>
      intro σ y2 hp
      have hp : B_X0_listWords_7 k1 post  (L_X0_listWords_7 k1 post  n_7) σ y2 := hp
      unfold B_X0_listWords_7 at hp
      have bb_57 : ∀ (σ : Dz) (y2 : Int32) , B_X0_listWords_57 k1 post (L_X0_listWords_7 k1 post  n_7) σ y2 → Gz p l e r_X0_listWords s m args below meth c D ad ty 5 0 0 (Ez below D ad ty nV0 (fun _ τ => post τ) (fun _ _ => False) args s 0 0) σ 57 [(0, .ref (ad 9)), (1, .ref (ad k1)), (2, .int y2)] [] := by
        intro σ y2 hp
        unfold B_X0_listWords_57 at hp
        refine gz_iinc K (v := (y2 + 1)) [(2, .int (y2 + 1)), (0, .ref (ad 9)), (1, .ref (ad k1))] dX0_listWords_57 2 rfl (by first | rfl | decide) (by decide) rfl ?_
        refine gz_goto K 7 dX0_listWords_60 (by decide) ?_
        refine gz_sub [1, 2, 0] rfl ?_
        exact ih_7 σ (y2 + 1)  hp
      refine gz_iload_n K dX0_listWords_7 2 rfl ?_
      refine gz_bipush K (v := (10 : Int32)) dX0_listWords_8 (by decide) ?_
      refine gz_icmp_ge K 63 dX0_listWords_10 (by decide) (fun h => ?_) (fun h => ?_)
      · have hp := hp.1 h
        refine gz_aload_n K dX0_listWords_63 0 rfl ?_
        refine gz_get K (v := .int (gz_i σ 9 2)) (by decide) (ce_9 _ _ _ _ _ _) rfl inz_X0 2 (by decide) zq1_116 rfl dX0_listWords_64 ?_
        refine gz_istore_n K [(2, .int (gz_i σ 9 2)), (0, .ref (ad 9)), (1, .ref (ad k1))] dX0_listWords_67 (by decide) rfl ?_
        refine gz_iconst K (v := (0 : Int32)) dX0_listWords_68 (by decide) ?_
        refine gz_istore_n K [(3, .int (0 : Int32)), (2, .int (gz_i σ 9 2)), (0, .ref (ad 9)), (1, .ref (ad k1))] dX0_listWords_69 (by decide) rfl ?_
        refine gz_sub [2, 1, 0] rfl ?_
        have ll_70 : ∀ (n_70 : Nat) (σ : Dz) (y2 : Int32) (y3 : Int32) , L_X0_listWords_70 k1 post  n_70 σ y2 y3 → Gz p l e r_X0_listWords s m args below meth c D ad ty 5 0 0 (Ez below D ad ty nV0 (fun _ τ => post τ) (fun _ _ => False) args s 0 0) σ 70 [(0, .ref (ad 9)), (2, .int y2), (3, .int y3)] [] := by
          intro n_70; induction n_70 with
          | zero => intro σ y2 y3 hp; exact False.elim hp
          | succ n_70 ih_70 =>
            intro σ y2 y3 hp
            have hp : B_X0_listWords_70 k1 post  (L_X0_listWords_70 k1 post  n_70) σ y2 y3 := hp
            unfold B_X0_listWords_70 at hp
            refine gz_iload_n K dX0_listWords_70 2 rfl ?_
            refine gz_aload_n K dX0_listWords_71 0 rfl ?_
            refine gz_get K (v := .int (gz_i σ 9 2)) (by decide) (ce_9 _ _ _ _ _ _) rfl inz_X0 2 (by decide) zq1_116 rfl dX0_listWords_72 ?_
            refine gz_icmp_ge K 127 dX0_listWords_75 (by decide) (fun h => ?_) (fun h => ?_)
            · have hp := hp.1 h
              exact gz_vret K hr hp dX0_listWords_127 (Nat.le_of_ble_eq_true rfl) (Nat.le_of_ble_eq_true rfl)
            · have hp := hp.2 h
              refine gz_iconst K (v := (0 : Int32)) dX0_listWords_78 (by decide) ?_
              refine gz_istore K [(4, .int (0 : Int32)), (0, .ref (ad 9)), (2, .int y2), (3, .int y3)] dX0_listWords_79 (by decide) rfl ?_
              refine gz_sub [1, 2, 3, 0] rfl ?_
              have ll_81 : ∀ (n_81 : Nat) (σ : Dz) (y2 : Int32) (y3 : Int32) (y4 : Int32) , L_X0_listWords_81 k1 post (L_X0_listWords_70 k1 post  n_70) n_81 σ y2 y3 y4 → Gz p l e r_X0_listWords s m args below meth c D ad ty 5 0 0 (Ez below D ad ty nV0 (fun _ τ => post τ) (fun _ _ => False) args s 0 0) σ 81 [(0, .ref (ad 9)), (2, .int y2), (3, .int y3), (4, .int y4)] [] := by
                intro n_81; induction n_81 with
                | zero => intro σ y2 y3 y4 hp; exact False.elim hp
                | succ n_81 ih_81 =>
                  intro σ y2 y3 y4 hp
                  have hp : B_X0_listWords_81 k1 post (L_X0_listWords_70 k1 post  n_70) (L_X0_listWords_81 k1 post (L_X0_listWords_70 k1 post  n_70) n_81) σ y2 y3 y4 := hp
                  unfold B_X0_listWords_81 at hp
                  refine gz_iload K dX0_listWords_81 3 rfl ?_
                  refine gz_aload_n K dX0_listWords_83 0 rfl ?_
                  refine gz_get K (v := .int (gz_i σ 9 2)) (by decide) (ce_9 _ _ _ _ _ _) rfl inz_X0 2 (by decide) zq1_116 rfl dX0_listWords_84 ?_
                  refine gz_icmp_ge K 121 dX0_listWords_87 (by decide) (fun h => ?_) (fun h => ?_)
                  · have hp := hp.1 h
                    refine gz_iinc K (v := (y3 + 1)) [(3, .int (y3 + 1)), (0, .ref (ad 9)), (2, .int y2), (4, .int y4)] dX0_listWords_121 2 rfl (by first | rfl | decide) (by decide) rfl ?_
                    refine gz_goto K 70 dX0_listWords_124 (by decide) ?_
                    refine gz_sub [1, 2, 0] rfl ?_
                    exact ih_70 σ y2 (y3 + 1)  hp
                  · have hp := hp.2 h
                    refine gz_aload_n K dX0_listWords_90 0 rfl ?_
                    refine gz_get K (v := .ref (ad 11)) (by decide) (ce_9 _ _ _ _ _ _) rfl inz_X0 1 (by decide) zq1_115 rfl dX0_listWords_91 ?_
                    refine gz_iload_n K dX0_listWords_94 1 rfl ?_
                    refine gz_aload_n K dX0_listWords_95 0 rfl ?_
                    refine gz_get K (v := .ref (ad 11)) (by decide) (ce_9 _ _ _ _ _ _) rfl inz_X0 1 (by decide) zq1_115 rfl dX0_listWords_96 ?_
                    refine gz_iload_n K dX0_listWords_99 2 rfl ?_
                    obtain ⟨h, hp⟩ := hp
                    refine gz_iald K (by decide) (ce_11 _ _ _ _ _ _) h dX0_listWords_100 ?_
                    refine gz_aload_n K dX0_listWords_101 0 rfl ?_
                    refine gz_get K (v := .ref (ad 11)) (by decide) (ce_9 _ _ _ _ _ _) rfl inz_X0 1 (by decide) zq1_115 rfl dX0_listWords_102 ?_
                    refine gz_iload K dX0_listWords_105 3 rfl ?_
                    obtain ⟨h, hp⟩ := hp
                    refine gz_iald K (by decide) (ce_11 _ _ _ _ _ _) h dX0_listWords_107 ?_
                    refine gz_callS K hex (c_X3_then K.2.2.2.2.2 K.2.2.1 hp) cf_X3_then zq4_187 dX0_listWords_108 rfl rfl (Nat.le_of_ble_eq_true rfl) ⟨Nat.le_of_ble_eq_true rfl, Nat.le_of_ble_eq_true rfl⟩ ⟨Nat.le_of_ble_eq_true rfl, Nat.le_of_ble_eq_true rfl⟩ (Nat.le_of_ble_eq_true rfl) (Nat.le_of_ble_eq_true rfl) (fun _ _ h => h.elim) (fun r108 τ hp => ?_)
                    obtain ⟨rfl, hp⟩ := hp
                    refine gz_norm (st' := [.int r108, .int y2, .ref (ad 11)]) (cells' := 0) (slots' := 0) rfl rfl rfl ?_
                    obtain ⟨h, hp⟩ := hp
                    refine gz_iast K (x := r108) (by decide) (ce_11 ad ty) h dX0_listWords_111 ?_
                    refine gz_iinc K (v := (y2 + 1)) [(2, .int (y2 + 1)), (0, .ref (ad 9)), (3, .int y3), (4, .int y4)] dX0_listWords_112 1 rfl (by first | rfl | decide) (by decide) rfl ?_
                    refine gz_iinc K (v := (y4 + 1)) [(4, .int (y4 + 1)), (2, .int (y2 + 1)), (0, .ref (ad 9)), (3, .int y3)] dX0_listWords_115 3 rfl (by first | rfl | decide) (by decide) rfl ?_
                    refine gz_goto K 81 dX0_listWords_118 (by decide) ?_
                    refine gz_sub [2, 1, 3, 0] rfl ?_
                    exact ih_81 (sz_i σ 11 (y2).toNatClampNeg r108) (y2 + 1) y3 (y4 + 1)  hp
              obtain ⟨n, hp⟩ := hp
              exact ll_81 n σ y2 y3 (0 : Int32)  hp
        obtain ⟨n, hp⟩ := hp
        exact ll_70 n σ (gz_i σ 9 2) (0 : Int32)  hp
      · have hp := hp.2 h
        refine gz_aload_n K dX0_listWords_13 1 rfl ?_
        refine gz_iload_n K dX0_listWords_14 2 rfl ?_
        refine gz_iconst K (v := (2 : Int32)) dX0_listWords_15 (by decide) ?_
        refine gz_idiv K dX0_listWords_16 (by decide) ?_
        refine gz_callV K hex (c_X4_isDefined K.2.2.2.2.2 K.2.2.1 h1 hp) cf_X4_isDefined zq4_185 (ceS h1).1 ((ceS h1).2 _ _ _ _ _ _) rfl dX0_listWords_17 rfl rfl (Nat.le_of_ble_eq_true rfl) ⟨Nat.le_of_ble_eq_true rfl, Nat.le_of_ble_eq_true rfl⟩ ⟨Nat.le_of_ble_eq_true rfl, Nat.le_of_ble_eq_true rfl⟩ (Nat.le_of_ble_eq_true rfl) (Nat.le_of_ble_eq_true rfl) (fun _ _ h => h.elim) (fun r17 τ hp => ?_)
        obtain ⟨rfl, hp⟩ := hp
        refine gz_norm (st' := [.int r17]) (cells' := 0) (slots' := 0) rfl rfl rfl ?_
        refine gz_if_eq K 57 dX0_listWords_20 (by decide) (fun h => ?_) (fun h => ?_)
        · have hp := hp.1 h
          exact bb_57 σ y2  hp
        · have hp := hp.2 h
          refine gz_aload_n K dX0_listWords_23 0 rfl ?_
          refine gz_get K (v := .ref (ad 10)) (by decide) (ce_9 _ _ _ _ _ _) rfl inz_X0 0 (by decide) zq1_114 rfl dX0_listWords_24 ?_
          refine gz_aload_n K dX0_listWords_27 0 rfl ?_
          refine gz_get K (v := .int (gz_i σ 9 2)) (by decide) (ce_9 _ _ _ _ _ _) rfl inz_X0 2 (by decide) zq1_116 rfl dX0_listWords_28 ?_
          refine gz_iload_n K dX0_listWords_31 2 rfl ?_
          obtain ⟨h, hp⟩ := hp
          refine gz_iast K (x := y2) (by decide) (ce_10 ad ty) h dX0_listWords_32 ?_
          refine gz_aload_n K dX0_listWords_33 0 rfl ?_
          refine gz_get K (v := .ref (ad 11)) (by decide) (ce_9 _ _ _ _ _ _) rfl inz_X0 1 (by decide) zq1_115 rfl dX0_listWords_34 ?_
          refine gz_aload_n K dX0_listWords_37 0 rfl ?_
          refine gz_get K (v := .int (gz_i (sz_i σ 10 ((gz_i σ 9 2)).toNatClampNeg y2) 9 2)) (by decide) (ce_9 _ _ _ _ _ _) rfl inz_X0 2 (by decide) zq1_116 rfl dX0_listWords_38 ?_
          refine gz_aload_n K dX0_listWords_41 1 rfl ?_
          refine gz_iload_n K dX0_listWords_42 2 rfl ?_
          refine gz_callV K hex (c_X4_effectOfLetter K.2.2.2.2.2 K.2.2.1 h1 hp) cf_X4_effectOfLetter zq4_186 (ceS h1).1 ((ceS h1).2 _ _ _ _ _ _) rfl dX0_listWords_43 rfl rfl (Nat.le_of_ble_eq_true rfl) ⟨Nat.le_of_ble_eq_true rfl, Nat.le_of_ble_eq_true rfl⟩ ⟨Nat.le_of_ble_eq_true rfl, Nat.le_of_ble_eq_true rfl⟩ (Nat.le_of_ble_eq_true rfl) (Nat.le_of_ble_eq_true rfl) (fun _ _ h => h.elim) (fun r43 τ hp => ?_)
          obtain ⟨rfl, hp⟩ := hp
          refine gz_norm (st' := [.int r43, .int (gz_i (sz_i σ 10 ((gz_i σ 9 2)).toNatClampNeg y2) 9 2), .ref (ad 11)]) (cells' := 0) (slots' := 0) rfl rfl rfl ?_
          obtain ⟨h, hp⟩ := hp
          refine gz_iast K (x := r43) (by decide) (ce_11 ad ty) h dX0_listWords_46 ?_
          refine gz_aload_n K dX0_listWords_47 0 rfl ?_
          refine gz_dup K dX0_listWords_48 rfl ?_
          refine gz_get K (v := .int (gz_i (sz_i (sz_i σ 10 ((gz_i σ 9 2)).toNatClampNeg y2) 11 ((gz_i (sz_i σ 10 ((gz_i σ 9 2)).toNatClampNeg y2) 9 2)).toNatClampNeg r43) 9 2)) (by decide) (ce_9 _ _ _ _ _ _) rfl inz_X0 2 (by decide) zq1_116 rfl dX0_listWords_49 ?_
          refine gz_iconst K (v := (1 : Int32)) dX0_listWords_52 (by decide) ?_
          refine gz_iadd K dX0_listWords_53 ?_
          refine gz_put K (x := ((gz_i (sz_i (sz_i σ 10 ((gz_i σ 9 2)).toNatClampNeg y2) 11 ((gz_i (sz_i σ 10 ((gz_i σ 9 2)).toNatClampNeg y2) 9 2)).toNatClampNeg r43) 9 2) + (1 : Int32))) (by decide) (ce_9 _ _ _ _ _ _) rfl inz_X0 tyX0 tyX0_ok nmX0 2 (by decide) zq1_116 rfl (tyX0_ok _ (by decide)) rfl rfl (Nat.le_of_ble_eq_true rfl) peX0_2 dX0_listWords_54 ?_
          exact bb_57 (sz_i (sz_i (sz_i σ 10 ((gz_i σ 9 2)).toNatClampNeg y2) 11 ((gz_i (sz_i σ 10 ((gz_i σ 9 2)).toNatClampNeg y2) 9 2)).toNatClampNeg r43) 9 2 ((gz_i (sz_i (sz_i σ 10 ((gz_i σ 9 2)).toNatClampNeg y2) 11 ((gz_i (sz_i σ 10 ((gz_i σ 9 2)).toNatClampNeg y2) 9 2)).toNatClampNeg r43) 9 2) + (1 : Int32))) y2  hp
  obtain ⟨n, hp⟩ := hp
  exact ll_7 n (sz_i σ 9 2 (0 : Int32)) (0 : Int32)  hp
set_option maxRecDepth 100000 in
set_option maxHeartbeats 4000000 in
theorem c_X0_startOf {l : Launch} {D : va_G} {ad : Nat → Nat} {ty : Nat → ClassId} (hl : l.stackTraces = false) (hj : ∀ i j, i < 68 → j < 68 → ad i = ad j → i = j) {σ : Dz} {x1 : Int32} {post : Int32 → Prop} (hp : P_X0_startOf σ x1 post) : Mz l D ad ty yX0_startOf cX0_startOf 2 (some .int) r_X0_startOf nI0 σ [.ref (ad 9), .int x1] (fun r τ => σ = τ ∧ post r) (fun _ _ => False) := by
  refine mz_of (by decide) hl hj (Nat.le_of_ble_eq_true rfl) ?_
  intro p e s m args below meth c K hex hr
  unfold P_X0_startOf at hp
  show Gz p l e r_X0_startOf s m args below meth c D ad ty 2 0 0 (Ez below D ad ty nI0 (fun r τ => σ = τ ∧ post r) (fun _ _ => False) args s 0 0) σ 0 [(0, .ref (ad 9)), (1, .int x1)] []
  refine gz_iload_n K dX0_startOf_0 1 rfl ?_
  refine gz_iconst K (v := (1 : Int32)) dX0_startOf_1 (by decide) ?_
  refine gz_icmp_ne K 7 dX0_startOf_2 (by decide) (fun h => ?_) (fun h => ?_)
  · have hp := hp.1 h
    refine gz_iload_n K dX0_startOf_7 1 rfl ?_
    refine gz_iconst K (v := (2 : Int32)) dX0_startOf_8 (by decide) ?_
    refine gz_icmp_ne K 19 dX0_startOf_9 (by decide) (fun h => ?_) (fun h => ?_)
    · have hp := hp.1 h
      refine gz_aload_n K dX0_startOf_19 0 rfl ?_
      refine gz_get K (v := .int (gz_i σ 9 2)) (by decide) (ce_9 _ _ _ _ _ _) rfl inz_X0 2 (by decide) zq1_116 rfl dX0_startOf_20 ?_
      refine gz_aload_n K dX0_startOf_23 0 rfl ?_
      refine gz_get K (v := .int (gz_i σ 9 2)) (by decide) (ce_9 _ _ _ _ _ _) rfl inz_X0 2 (by decide) zq1_116 rfl dX0_startOf_24 ?_
      refine gz_aload_n K dX0_startOf_27 0 rfl ?_
      refine gz_get K (v := .int (gz_i σ 9 2)) (by decide) (ce_9 _ _ _ _ _ _) rfl inz_X0 2 (by decide) zq1_116 rfl dX0_startOf_28 ?_
      refine gz_imul K dX0_startOf_31 ?_
      refine gz_iadd K dX0_startOf_32 ?_
      exact gz_iret K hr ⟨rfl, hp⟩ dX0_startOf_33 (Nat.le_of_ble_eq_true rfl) (Nat.le_of_ble_eq_true rfl)
    · have hp := hp.2 h
      refine gz_aload_n K dX0_startOf_12 0 rfl ?_
      refine gz_get K (v := .int (gz_i σ 9 2)) (by decide) (ce_9 _ _ _ _ _ _) rfl inz_X0 2 (by decide) zq1_116 rfl dX0_startOf_13 ?_
      refine gz_goto K 33 dX0_startOf_16 (by decide) ?_
      exact gz_iret K hr ⟨rfl, hp⟩ dX0_startOf_33 (Nat.le_of_ble_eq_true rfl) (Nat.le_of_ble_eq_true rfl)
  · have hp := hp.2 h
    refine gz_iconst K (v := (0 : Int32)) dX0_startOf_5 (by decide) ?_
    exact gz_iret K hr ⟨rfl, hp⟩ dX0_startOf_6 (Nat.le_of_ble_eq_true rfl) (Nat.le_of_ble_eq_true rfl)
set_option maxRecDepth 100000 in
set_option maxHeartbeats 4000000 in
theorem c_X0_movedBy {l : Launch} {D : va_G} {ad : Nat → Nat} {ty : Nat → ClassId} (hl : l.stackTraces = false) (hj : ∀ i j, i < 68 → j < 68 → ad i = ad j → i = j) {σ : Dz} {x0 : Int32} {x1 : Int32} {post : Int32 → Prop} (hp : P_X0_movedBy x0 x1 post) : Mz l D ad ty yX0_movedBy cX0_movedBy 6 (some .int) r_X0_movedBy nI0 σ [.int x0, .int x1] (fun r τ => σ = τ ∧ post r) (fun _ _ => False) := by
  refine mz_of (by decide) hl hj (Nat.le_of_ble_eq_true rfl) ?_
  intro p e s m args below meth c K hex hr
  unfold P_X0_movedBy at hp
  show Gz p l e r_X0_movedBy s m args below meth c D ad ty 6 0 0 (Ez below D ad ty nI0 (fun r τ => σ = τ ∧ post r) (fun _ _ => False) args s 0 0) σ 0 [(0, .int x0), (1, .int x1)] []
  refine gz_iconst K (v := (0 : Int32)) dX0_movedBy_0 (by decide) ?_
  refine gz_istore_n K [(2, .int (0 : Int32)), (0, .int x0), (1, .int x1)] dX0_movedBy_1 (by decide) rfl ?_
  refine gz_iconst K (v := (0 : Int32)) dX0_movedBy_2 (by decide) ?_
  refine gz_istore_n K [(3, .int (0 : Int32)), (2, .int (0 : Int32)), (0, .int x0), (1, .int x1)] dX0_movedBy_3 (by decide) rfl ?_
  refine gz_sub [2, 3, 1, 0] rfl ?_
  have ll_4 : ∀ (n_4 : Nat) (y0 : Int32) (y1 : Int32) (y2 : Int32) (y3 : Int32) , L_X0_movedBy_4 post  n_4 y0 y1 y2 y3 → Gz p l e r_X0_movedBy s m args below meth c D ad ty 6 0 0 (Ez below D ad ty nI0 (fun r τ => σ = τ ∧ post r) (fun _ _ => False) args s 0 0) σ 4 [(0, .int y0), (1, .int y1), (2, .int y2), (3, .int y3)] [] := by
    intro n_4; induction n_4 with
    | zero => intro y0 y1 y2 y3 hp; exact False.elim hp
    | succ n_4 ih_4 =>
      intro y0 y1 y2 y3 hp
      have hp : B_X0_movedBy_4 post  (L_X0_movedBy_4 post  n_4) y0 y1 y2 y3 := hp
      unfold B_X0_movedBy_4 at hp
      have bb_42 : ∀ (y0 : Int32) (y1 : Int32) (y2 : Int32) (y3 : Int32) , B_X0_movedBy_42 post (L_X0_movedBy_4 post  n_4) y0 y1 y2 y3 → Gz p l e r_X0_movedBy s m args below meth c D ad ty 6 0 0 (Ez below D ad ty nI0 (fun r τ => σ = τ ∧ post r) (fun _ _ => False) args s 0 0) σ 42 [(0, .int y0), (1, .int y1), (2, .int y2), (3, .int y3)] [] := by
        intro y0 y1 y2 y3 hp
        unfold B_X0_movedBy_42 at hp
        refine gz_iinc K (v := (y3 + 1)) [(3, .int (y3 + 1)), (0, .int y0), (1, .int y1), (2, .int y2)] dX0_movedBy_42 3 rfl (by first | rfl | decide) (by decide) rfl ?_
        refine gz_goto K 4 dX0_movedBy_45 (by decide) ?_
        refine gz_sub [1, 2, 3, 0] rfl ?_
        exact ih_4 y0 y1 y2 (y3 + 1)  hp
      refine gz_iload_n K dX0_movedBy_4 3 rfl ?_
      refine gz_bipush K (v := (7 : Int32)) dX0_movedBy_5 (by decide) ?_
      refine gz_icmp_ge K 48 dX0_movedBy_7 (by decide) (fun h => ?_) (fun h => ?_)
      · have hp := hp.1 h
        refine gz_iload_n K dX0_movedBy_48 2 rfl ?_
        exact gz_iret K hr ⟨rfl, hp⟩ dX0_movedBy_49 (Nat.le_of_ble_eq_true rfl) (Nat.le_of_ble_eq_true rfl)
      · have hp := hp.2 h
        refine gz_iload_n K dX0_movedBy_10 1 rfl ?_
        refine gz_iload_n K dX0_movedBy_11 0 rfl ?_
        refine gz_iload_n K dX0_movedBy_12 3 rfl ?_
        refine gz_callS K hex (c_X3_imageOf K.2.2.2.2.2 K.2.2.1 hp) cf_X3_imageOf zq4_199 dX0_movedBy_13 rfl rfl (Nat.le_of_ble_eq_true rfl) ⟨Nat.le_of_ble_eq_true rfl, Nat.le_of_ble_eq_true rfl⟩ ⟨Nat.le_of_ble_eq_true rfl, Nat.le_of_ble_eq_true rfl⟩ (Nat.le_of_ble_eq_true rfl) (Nat.le_of_ble_eq_true rfl) (fun _ _ h => h.elim) (fun r13 τ hp => ?_)
        obtain ⟨rfl, hp⟩ := hp
        refine gz_norm (st' := [.int r13, .int y1]) (cells' := 0) (slots' := 0) rfl rfl rfl ?_
        refine gz_callS K hex (c_X3_imageOf K.2.2.2.2.2 K.2.2.1 hp) cf_X3_imageOf zq4_199 dX0_movedBy_16 rfl rfl (Nat.le_of_ble_eq_true rfl) ⟨Nat.le_of_ble_eq_true rfl, Nat.le_of_ble_eq_true rfl⟩ ⟨Nat.le_of_ble_eq_true rfl, Nat.le_of_ble_eq_true rfl⟩ (Nat.le_of_ble_eq_true rfl) (Nat.le_of_ble_eq_true rfl) (fun _ _ h => h.elim) (fun r16 τ hp => ?_)
        obtain ⟨rfl, hp⟩ := hp
        refine gz_norm (st' := [.int r16]) (cells' := 0) (slots' := 0) rfl rfl rfl ?_
        refine gz_istore K [(4, .int r16), (0, .int y0), (1, .int y1), (2, .int y2), (3, .int y3)] dX0_movedBy_19 (by decide) rfl ?_
        refine gz_iload_n K dX0_movedBy_21 1 rfl ?_
        refine gz_iload_n K dX0_movedBy_22 2 rfl ?_
        refine gz_iload_n K dX0_movedBy_23 4 rfl ?_
        refine gz_callS K hex (c_X3_imageOf K.2.2.2.2.2 K.2.2.1 hp) cf_X3_imageOf zq4_199 dX0_movedBy_24 rfl rfl (Nat.le_of_ble_eq_true rfl) ⟨Nat.le_of_ble_eq_true rfl, Nat.le_of_ble_eq_true rfl⟩ ⟨Nat.le_of_ble_eq_true rfl, Nat.le_of_ble_eq_true rfl⟩ (Nat.le_of_ble_eq_true rfl) (Nat.le_of_ble_eq_true rfl) (fun _ _ h => h.elim) (fun r24 τ hp => ?_)
        obtain ⟨rfl, hp⟩ := hp
        refine gz_norm (st' := [.int r24, .int y0]) (cells' := 0) (slots' := 0) rfl rfl rfl ?_
        refine gz_callS K hex (c_X3_imageOf K.2.2.2.2.2 K.2.2.1 hp) cf_X3_imageOf zq4_199 dX0_movedBy_27 rfl rfl (Nat.le_of_ble_eq_true rfl) ⟨Nat.le_of_ble_eq_true rfl, Nat.le_of_ble_eq_true rfl⟩ ⟨Nat.le_of_ble_eq_true rfl, Nat.le_of_ble_eq_true rfl⟩ (Nat.le_of_ble_eq_true rfl) (Nat.le_of_ble_eq_true rfl) (fun _ _ h => h.elim) (fun r27 τ hp => ?_)
        obtain ⟨rfl, hp⟩ := hp
        refine gz_norm (st' := [.int r27]) (cells' := 0) (slots' := 0) rfl rfl rfl ?_
        refine gz_istore K [(5, .int r27), (4, .int r16), (0, .int y0), (1, .int y1), (2, .int y2), (3, .int y3)] dX0_movedBy_30 (by decide) rfl ?_
        refine gz_iload K dX0_movedBy_32 1 rfl ?_
        refine gz_iload K dX0_movedBy_34 0 rfl ?_
        refine gz_icmp_eq K 42 dX0_movedBy_36 (by decide) (fun h => ?_) (fun h => ?_)
        · have hp := hp.1 h
          refine gz_sub [2, 3, 4, 5] rfl ?_
          exact bb_42 y0 y1 y2 y3  hp
        · have hp := hp.2 h
          refine gz_iinc K (v := (y2 + 1)) [(2, .int (y2 + 1)), (5, .int r27), (4, .int r16), (0, .int y0), (1, .int y1), (3, .int y3)] dX0_movedBy_39 4 rfl (by first | rfl | decide) (by decide) rfl ?_
          refine gz_sub [3, 4, 0, 5] rfl ?_
          exact bb_42 y0 y1 (y2 + 1) y3  hp
  obtain ⟨n, hp⟩ := hp
  exact ll_4 n x0 x1 (0 : Int32) (0 : Int32)  hp
set_option maxRecDepth 100000 in
set_option maxHeartbeats 4000000 in
theorem c_X0_findAmong {l : Launch} {D : va_G} {ad : Nat → Nat} {ty : Nat → ClassId} (hl : l.stackTraces = false) (hj : ∀ i j, i < 68 → j < 68 → ad i = ad j → i = j) {σ : Dz} {x1 : Int32} {x2 : Int32} {x3 : Int32} {post : Int32 → Dz → Prop} (hp : P_X0_findAmong σ x1 x2 x3 post) : Mz l D ad ty yX0_findAmong cX0_findAmong 6 (some .boolean) r_X0_findAmong nI0 σ [.ref (ad 9), .int x1, .int x2, .int x3] post (fun _ _ => False) := by
  refine mz_of (by decide) hl hj (Nat.le_of_ble_eq_true rfl) ?_
  intro p e s m args below meth c K hex hr
  unfold P_X0_findAmong at hp
  show Gz p l e r_X0_findAmong s m args below meth c D ad ty 6 0 0 (Ez below D ad ty nI0 post (fun _ _ => False) args s 0 0) σ 0 [(0, .ref (ad 9)), (1, .int x1), (2, .int x2), (3, .int x3)] []
  refine gz_aload_n K dX0_findAmong_0 0 rfl ?_
  refine gz_iload_n K dX0_findAmong_1 1 rfl ?_
  refine gz_callV K hex (c_X0_startOf K.2.2.2.2.2 K.2.2.1 hp) cf_X0_startOf zq4_192 (by decide) (ce_9 _ _ _ _ _ _) rfl dX0_findAmong_2 rfl rfl (Nat.le_of_ble_eq_true rfl) ⟨Nat.le_of_ble_eq_true rfl, Nat.le_of_ble_eq_true rfl⟩ ⟨Nat.le_of_ble_eq_true rfl, Nat.le_of_ble_eq_true rfl⟩ (Nat.le_of_ble_eq_true rfl) (Nat.le_of_ble_eq_true rfl) (fun _ _ h => h.elim) (fun r2 τ hp => ?_)
  obtain ⟨rfl, hp⟩ := hp
  refine gz_norm (st' := [.int r2]) (cells' := 0) (slots' := 0) rfl rfl rfl ?_
  refine gz_istore K [(4, .int r2), (0, .ref (ad 9)), (1, .int x1), (2, .int x2), (3, .int x3)] dX0_findAmong_5 (by decide) rfl ?_
  refine gz_sub [1, 2, 3, 4, 0] rfl ?_
  have ll_7 : ∀ (n_7 : Nat) (σ : Dz) (y1 : Int32) (y2 : Int32) (y3 : Int32) (y4 : Int32) , L_X0_findAmong_7 post  n_7 σ y1 y2 y3 y4 → Gz p l e r_X0_findAmong s m args below meth c D ad ty 6 0 0 (Ez below D ad ty nI0 post (fun _ _ => False) args s 0 0) σ 7 [(0, .ref (ad 9)), (1, .int y1), (2, .int y2), (3, .int y3), (4, .int y4)] [] := by
    intro n_7; induction n_7 with
    | zero => intro σ y1 y2 y3 y4 hp; exact False.elim hp
    | succ n_7 ih_7 =>
      intro σ y1 y2 y3 y4 hp
      have hp : B_X0_findAmong_7 post  (L_X0_findAmong_7 post  n_7) σ y1 y2 y3 y4 := hp
      unfold B_X0_findAmong_7 at hp
      refine gz_iload K dX0_findAmong_7 4 rfl ?_
      refine gz_aload_n K dX0_findAmong_9 0 rfl ?_
      refine gz_iload_n K dX0_findAmong_10 1 rfl ?_
      refine gz_iconst K (v := (1 : Int32)) dX0_findAmong_11 (by decide) ?_
      refine gz_iadd K dX0_findAmong_12 ?_
      refine gz_callV K hex (c_X0_startOf K.2.2.2.2.2 K.2.2.1 hp) cf_X0_startOf zq4_192 (by decide) (ce_9 _ _ _ _ _ _) rfl dX0_findAmong_13 rfl rfl (Nat.le_of_ble_eq_true rfl) ⟨Nat.le_of_ble_eq_true rfl, Nat.le_of_ble_eq_true rfl⟩ ⟨Nat.le_of_ble_eq_true rfl, Nat.le_of_ble_eq_true rfl⟩ (Nat.le_of_ble_eq_true rfl) (Nat.le_of_ble_eq_true rfl) (fun _ _ h => h.elim) (fun r13 τ hp => ?_)
      obtain ⟨rfl, hp⟩ := hp
      refine gz_norm (st' := [.int r13, .int y4]) (cells' := 0) (slots' := 0) rfl rfl rfl ?_
      refine gz_icmp_ge K 85 dX0_findAmong_16 (by decide) (fun h => ?_) (fun h => ?_)
      · have hp := hp.1 h
        refine gz_iconst K (v := (0 : Int32)) dX0_findAmong_85 (by decide) ?_
        exact gz_zret K hr (by decide) hp dX0_findAmong_86 (Nat.le_of_ble_eq_true rfl) (Nat.le_of_ble_eq_true rfl)
      · have hp := hp.2 h
        refine gz_aload_n K dX0_findAmong_19 0 rfl ?_
        refine gz_iload_n K dX0_findAmong_20 2 rfl ?_
        refine gz_callV K hex (c_X0_startOf K.2.2.2.2.2 K.2.2.1 hp) cf_X0_startOf zq4_192 (by decide) (ce_9 _ _ _ _ _ _) rfl dX0_findAmong_21 rfl rfl (Nat.le_of_ble_eq_true rfl) ⟨Nat.le_of_ble_eq_true rfl, Nat.le_of_ble_eq_true rfl⟩ ⟨Nat.le_of_ble_eq_true rfl, Nat.le_of_ble_eq_true rfl⟩ (Nat.le_of_ble_eq_true rfl) (Nat.le_of_ble_eq_true rfl) (fun _ _ h => h.elim) (fun r21 τ hp => ?_)
        obtain ⟨rfl, hp⟩ := hp
        refine gz_norm (st' := [.int r21]) (cells' := 0) (slots' := 0) rfl rfl rfl ?_
        refine gz_istore K [(5, .int r21), (0, .ref (ad 9)), (1, .int y1), (2, .int y2), (3, .int y3), (4, .int y4)] dX0_findAmong_24 (by decide) rfl ?_
        refine gz_sub [1, 2, 3, 4, 5, 0] rfl ?_
        have ll_26 : ∀ (n_26 : Nat) (σ : Dz) (y1 : Int32) (y2 : Int32) (y3 : Int32) (y4 : Int32) (y5 : Int32) , L_X0_findAmong_26 post (L_X0_findAmong_7 post  n_7) n_26 σ y1 y2 y3 y4 y5 → Gz p l e r_X0_findAmong s m args below meth c D ad ty 6 0 0 (Ez below D ad ty nI0 post (fun _ _ => False) args s 0 0) σ 26 [(0, .ref (ad 9)), (1, .int y1), (2, .int y2), (3, .int y3), (4, .int y4), (5, .int y5)] [] := by
          intro n_26; induction n_26 with
          | zero => intro σ y1 y2 y3 y4 y5 hp; exact False.elim hp
          | succ n_26 ih_26 =>
            intro σ y1 y2 y3 y4 y5 hp
            have hp : B_X0_findAmong_26 post (L_X0_findAmong_7 post  n_7) (L_X0_findAmong_26 post (L_X0_findAmong_7 post  n_7) n_26) σ y1 y2 y3 y4 y5 := hp
            unfold B_X0_findAmong_26 at hp
            refine gz_iload K dX0_findAmong_26 5 rfl ?_
            refine gz_aload_n K dX0_findAmong_28 0 rfl ?_
            refine gz_iload_n K dX0_findAmong_29 2 rfl ?_
            refine gz_iconst K (v := (1 : Int32)) dX0_findAmong_30 (by decide) ?_
            refine gz_iadd K dX0_findAmong_31 ?_
            refine gz_callV K hex (c_X0_startOf K.2.2.2.2.2 K.2.2.1 hp) cf_X0_startOf zq4_192 (by decide) (ce_9 _ _ _ _ _ _) rfl dX0_findAmong_32 rfl rfl (Nat.le_of_ble_eq_true rfl) ⟨Nat.le_of_ble_eq_true rfl, Nat.le_of_ble_eq_true rfl⟩ ⟨Nat.le_of_ble_eq_true rfl, Nat.le_of_ble_eq_true rfl⟩ (Nat.le_of_ble_eq_true rfl) (Nat.le_of_ble_eq_true rfl) (fun _ _ h => h.elim) (fun r32 τ hp => ?_)
            obtain ⟨rfl, hp⟩ := hp
            refine gz_norm (st' := [.int r32, .int y5]) (cells' := 0) (slots' := 0) rfl rfl rfl ?_
            refine gz_icmp_ge K 79 dX0_findAmong_35 (by decide) (fun h => ?_) (fun h => ?_)
            · have hp := hp.1 h
              refine gz_iinc K (v := (y4 + 1)) [(4, .int (y4 + 1)), (0, .ref (ad 9)), (1, .int y1), (2, .int y2), (3, .int y3), (5, .int y5)] dX0_findAmong_79 4 rfl (by first | rfl | decide) (by decide) rfl ?_
              refine gz_goto K 7 dX0_findAmong_82 (by decide) ?_
              refine gz_sub [1, 2, 3, 4, 0] rfl ?_
              exact ih_7 σ y1 y2 y3 (y4 + 1)  hp
            · have hp := hp.2 h
              refine gz_aload_n K dX0_findAmong_38 0 rfl ?_
              refine gz_get K (v := .ref (ad 11)) (by decide) (ce_9 _ _ _ _ _ _) rfl inz_X0 1 (by decide) zq1_115 rfl dX0_findAmong_39 ?_
              refine gz_iload K dX0_findAmong_42 4 rfl ?_
              obtain ⟨h, hp⟩ := hp
              refine gz_iald K (by decide) (ce_11 _ _ _ _ _ _) h dX0_findAmong_44 ?_
              refine gz_aload_n K dX0_findAmong_45 0 rfl ?_
              refine gz_get K (v := .ref (ad 11)) (by decide) (ce_9 _ _ _ _ _ _) rfl inz_X0 1 (by decide) zq1_115 rfl dX0_findAmong_46 ?_
              refine gz_iload K dX0_findAmong_49 5 rfl ?_
              obtain ⟨h, hp⟩ := hp
              refine gz_iald K (by decide) (ce_11 _ _ _ _ _ _) h dX0_findAmong_51 ?_
              refine gz_callS K hex (c_X0_movedBy K.2.2.2.2.2 K.2.2.1 hp) cf_X0_movedBy zq4_196 dX0_findAmong_52 rfl rfl (Nat.le_of_ble_eq_true rfl) ⟨Nat.le_of_ble_eq_true rfl, Nat.le_of_ble_eq_true rfl⟩ ⟨Nat.le_of_ble_eq_true rfl, Nat.le_of_ble_eq_true rfl⟩ (Nat.le_of_ble_eq_true rfl) (Nat.le_of_ble_eq_true rfl) (fun _ _ h => h.elim) (fun r52 τ hp => ?_)
              obtain ⟨rfl, hp⟩ := hp
              refine gz_norm (st' := [.int r52]) (cells' := 0) (slots' := 0) rfl rfl rfl ?_
              refine gz_iload_n K dX0_findAmong_55 3 rfl ?_
              refine gz_icmp_ne K 73 dX0_findAmong_56 (by decide) (fun h => ?_) (fun h => ?_)
              · have hp := hp.1 h
                refine gz_iinc K (v := (y5 + 1)) [(5, .int (y5 + 1)), (0, .ref (ad 9)), (1, .int y1), (2, .int y2), (3, .int y3), (4, .int y4)] dX0_findAmong_73 5 rfl (by first | rfl | decide) (by decide) rfl ?_
                refine gz_goto K 26 dX0_findAmong_76 (by decide) ?_
                refine gz_sub [1, 2, 3, 4, 5, 0] rfl ?_
                exact ih_26 σ y1 y2 y3 y4 (y5 + 1)  hp
              · have hp := hp.2 h
                refine gz_aload_n K dX0_findAmong_59 0 rfl ?_
                refine gz_iload K dX0_findAmong_60 4 rfl ?_
                refine gz_put K (x := y4) (by decide) (ce_9 _ _ _ _ _ _) rfl inz_X0 tyX0 tyX0_ok nmX0 3 (by decide) zq1_117 rfl (tyX0_ok _ (by decide)) rfl rfl (Nat.le_of_ble_eq_true rfl) peX0_3 dX0_findAmong_62 ?_
                refine gz_aload_n K dX0_findAmong_65 0 rfl ?_
                refine gz_iload K dX0_findAmong_66 5 rfl ?_
                refine gz_put K (x := y5) (by decide) (ce_9 _ _ _ _ _ _) rfl inz_X0 tyX0 tyX0_ok nmX0 4 (by decide) zq1_118 rfl (tyX0_ok _ (by decide)) rfl rfl (Nat.le_of_ble_eq_true rfl) peX0_4 dX0_findAmong_68 ?_
                refine gz_iconst K (v := (1 : Int32)) dX0_findAmong_71 (by decide) ?_
                exact gz_zret K hr (by decide) hp dX0_findAmong_72 (Nat.le_of_ble_eq_true rfl) (Nat.le_of_ble_eq_true rfl)
        obtain ⟨n, hp⟩ := hp
        exact ll_26 n σ y1 y2 y3 y4 r21  hp
  obtain ⟨n, hp⟩ := hp
  exact ll_7 n σ x1 x2 x3 r2  hp
set_option maxRecDepth 100000 in
set_option maxHeartbeats 4000000 in
theorem c_X6_clear {l : Launch} {D : va_G} {ad : Nat → Nat} {ty : Nat → ClassId} (hl : l.stackTraces = false) (hj : ∀ i j, i < 68 → j < 68 → ad i = ad j → i = j) {σ : Dz} {w : Nat} (hw : isW w) {post : Dz → Prop} (hp : P_X6_clear σ w post) : Mz l D ad ty yX6_clear cX6_clear 1 none r_X6_clear nV0 σ [.ref (ad w)] (fun _ τ => post τ) (fun _ _ => False) := by
  refine mz_of (by decide) hl hj (Nat.le_of_ble_eq_true rfl) ?_
  intro p e s m args below meth c K hex hr
  unfold P_X6_clear at hp
  show Gz p l e r_X6_clear s m args below meth c D ad ty 1 0 0 (Ez below D ad ty nV0 (fun _ τ => post τ) (fun _ _ => False) args s 0 0) σ 0 [(0, .ref (ad w))] []
  refine gz_aload_n K dX6_clear_0 0 rfl ?_
  refine gz_iconst K (v := (0 : Int32)) dX6_clear_1 (by decide) ?_
  refine gz_put K (x := (0 : Int32)) (ceW hw).1 ((ceW hw).2 _ _ _ _ _ _) rfl inz_X6 tyX6 tyX6_ok nmX6 1 (by decide) zq1_173 rfl (tyX6_ok _ (by decide)) rfl rfl (Nat.le_of_ble_eq_true rfl) (peX6_1 hw) dX6_clear_2 ?_
  exact gz_vret K hr hp dX6_clear_5 (Nat.le_of_ble_eq_true rfl) (Nat.le_of_ble_eq_true rfl)
set_option maxRecDepth 100000 in
set_option maxHeartbeats 4000000 in
theorem c_X6_add {l : Launch} {D : va_G} {ad : Nat → Nat} {ty : Nat → ClassId} (hl : l.stackTraces = false) (hj : ∀ i j, i < 68 → j < 68 → ad i = ad j → i = j) {σ : Dz} {w : Nat} (hw : isW w) {x1 : Int32} {post : Int32 → Dz → Prop} (hp : P_X6_add σ w x1 post) : Mz l D ad ty yX6_add cX6_add 2 (some .boolean) r_X6_add nI0 σ [.ref (ad w), .int x1] post (fun _ _ => False) := by
  refine mz_of (by decide) hl hj (Nat.le_of_ble_eq_true rfl) ?_
  intro p e s m args below meth c K hex hr
  unfold P_X6_add at hp
  show Gz p l e r_X6_add s m args below meth c D ad ty 2 0 0 (Ez below D ad ty nI0 post (fun _ _ => False) args s 0 0) σ 0 [(0, .ref (ad w)), (1, .int x1)] []
  refine gz_aload_n K dX6_add_0 0 rfl ?_
  refine gz_get K (v := .int (gz_i σ w 1)) (ceW hw).1 ((ceW hw).2 _ _ _ _ _ _) rfl inz_X6 1 (by decide) zq1_173 rfl dX6_add_1 ?_
  refine gz_aload_n K dX6_add_4 0 rfl ?_
  refine gz_get K (v := .ref (ad (w + 1))) (ceW hw).1 ((ceW hw).2 _ _ _ _ _ _) rfl inz_X6 0 (by decide) zq1_172 rfl dX6_add_5 ?_
  refine gz_alen K (v := (200 : Int32)) 3 rfl (caW hw).1 ((caW hw).2 _ _ _ _ _ _) (by decide) dX6_add_8 ?_
  refine gz_icmp_lt K 14 dX6_add_9 (by decide) (fun h => ?_) (fun h => ?_)
  · have hp := hp.1 h
    refine gz_aload_n K dX6_add_14 0 rfl ?_
    refine gz_get K (v := .ref (ad (w + 1))) (ceW hw).1 ((ceW hw).2 _ _ _ _ _ _) rfl inz_X6 0 (by decide) zq1_172 rfl dX6_add_15 ?_
    refine gz_aload_n K dX6_add_18 0 rfl ?_
    refine gz_get K (v := .int (gz_i σ w 1)) (ceW hw).1 ((ceW hw).2 _ _ _ _ _ _) rfl inz_X6 1 (by decide) zq1_173 rfl dX6_add_19 ?_
    refine gz_iload_n K dX6_add_22 1 rfl ?_
    obtain ⟨h, hp⟩ := hp
    refine gz_iast K (x := x1) (caW hw).1 ((caW hw).2 ad ty) h dX6_add_23 ?_
    refine gz_aload_n K dX6_add_24 0 rfl ?_
    refine gz_dup K dX6_add_25 rfl ?_
    refine gz_get K (v := .int (gz_i (sz_i σ (w + 1) ((gz_i σ w 1)).toNatClampNeg x1) w 1)) (ceW hw).1 ((ceW hw).2 _ _ _ _ _ _) rfl inz_X6 1 (by decide) zq1_173 rfl dX6_add_26 ?_
    refine gz_iconst K (v := (1 : Int32)) dX6_add_29 (by decide) ?_
    refine gz_iadd K dX6_add_30 ?_
    refine gz_put K (x := ((gz_i (sz_i σ (w + 1) ((gz_i σ w 1)).toNatClampNeg x1) w 1) + (1 : Int32))) (ceW hw).1 ((ceW hw).2 _ _ _ _ _ _) rfl inz_X6 tyX6 tyX6_ok nmX6 1 (by decide) zq1_173 rfl (tyX6_ok _ (by decide)) rfl rfl (Nat.le_of_ble_eq_true rfl) (peX6_1 hw) dX6_add_31 ?_
    refine gz_iconst K (v := (1 : Int32)) dX6_add_34 (by decide) ?_
    exact gz_zret K hr (by decide) hp dX6_add_35 (Nat.le_of_ble_eq_true rfl) (Nat.le_of_ble_eq_true rfl)
  · have hp := hp.2 h
    refine gz_iconst K (v := (0 : Int32)) dX6_add_12 (by decide) ?_
    exact gz_zret K hr (by decide) hp dX6_add_13 (Nat.le_of_ble_eq_true rfl) (Nat.le_of_ble_eq_true rfl)
set_option maxRecDepth 100000 in
set_option maxHeartbeats 4000000 in
theorem c_X0_writeWord {l : Launch} {D : va_G} {ad : Nat → Nat} {ty : Nat → ClassId} (hl : l.stackTraces = false) (hj : ∀ i j, i < 68 → j < 68 → ad i = ad j → i = j) {σ : Dz} {w2 : Nat} (h2 : isW w2) {x1 : Int32} {post : Dz → Prop} (hp : P_X0_writeWord σ w2 x1 post) : Mz l D ad ty yX0_writeWord cX0_writeWord 4 none r_X0_writeWord nV0 σ [.ref (ad 9), .int x1, .ref (ad w2)] (fun _ τ => post τ) (fun _ _ => False) := by
  refine mz_of (by decide) hl hj (Nat.le_of_ble_eq_true rfl) ?_
  intro p e s m args below meth c K hex hr
  unfold P_X0_writeWord at hp
  have bb_26 : ∀ (σ : Dz) (y1 : Int32) , B_X0_writeWord_26 w2 post  σ y1 → Gz p l e r_X0_writeWord s m args below meth c D ad ty 4 0 0 (Ez below D ad ty nV0 (fun _ τ => post τ) (fun _ _ => False) args s 0 0) σ 26 [(0, .ref (ad 9)), (1, .int y1), (2, .ref (ad w2))] [] := by
    intro σ y1 hp
    unfold B_X0_writeWord_26 at hp
    refine gz_aload_n K dX0_writeWord_26 0 rfl ?_
    refine gz_get K (v := .int (gz_i σ 9 2)) (by decide) (ce_9 _ _ _ _ _ _) rfl inz_X0 2 (by decide) zq1_116 rfl dX0_writeWord_27 ?_
    refine gz_if_le K 81 dX0_writeWord_30 (by decide) (fun h => ?_) (fun h => ?_)
    · have hp := hp.1 h
      exact gz_vret K hr hp dX0_writeWord_81 (Nat.le_of_ble_eq_true rfl) (Nat.le_of_ble_eq_true rfl)
    · have hp := hp.2 h
      refine gz_iload_n K dX0_writeWord_33 1 rfl ?_
      refine gz_aload_n K dX0_writeWord_34 0 rfl ?_
      refine gz_iconst K (v := (3 : Int32)) dX0_writeWord_35 (by decide) ?_
      refine gz_callV K hex (c_X0_startOf K.2.2.2.2.2 K.2.2.1 hp) cf_X0_startOf zq4_192 (by decide) (ce_9 _ _ _ _ _ _) rfl dX0_writeWord_36 rfl rfl (Nat.le_of_ble_eq_true rfl) ⟨Nat.le_of_ble_eq_true rfl, Nat.le_of_ble_eq_true rfl⟩ ⟨Nat.le_of_ble_eq_true rfl, Nat.le_of_ble_eq_true rfl⟩ (Nat.le_of_ble_eq_true rfl) (Nat.le_of_ble_eq_true rfl) (fun _ _ h => h.elim) (fun r36 τ hp => ?_)
      obtain ⟨rfl, hp⟩ := hp
      refine gz_norm (st' := [.int r36, .int y1]) (cells' := 0) (slots' := 0) rfl rfl rfl ?_
      refine gz_icmp_ge K 81 dX0_writeWord_39 (by decide) (fun h => ?_) (fun h => ?_)
      · have hp := hp.1 h
        exact gz_vret K hr hp dX0_writeWord_81 (Nat.le_of_ble_eq_true rfl) (Nat.le_of_ble_eq_true rfl)
      · have hp := hp.2 h
        refine gz_iload_n K dX0_writeWord_42 1 rfl ?_
        refine gz_aload_n K dX0_writeWord_43 0 rfl ?_
        refine gz_get K (v := .int (gz_i σ 9 2)) (by decide) (ce_9 _ _ _ _ _ _) rfl inz_X0 2 (by decide) zq1_116 rfl dX0_writeWord_44 ?_
        refine gz_isub K dX0_writeWord_47 ?_
        refine gz_istore_n K [(3, .int (y1 - (gz_i σ 9 2))), (0, .ref (ad 9)), (1, .int y1), (2, .ref (ad w2))] dX0_writeWord_48 (by decide) rfl ?_
        refine gz_aload_n K dX0_writeWord_49 3 rfl ?_
        refine gz_aload_n K dX0_writeWord_50 1 rfl ?_
        refine gz_get K (v := .ref (ad 10)) (by decide) (ce_9 _ _ _ _ _ _) rfl inz_X0 0 (by decide) zq1_114 rfl dX0_writeWord_51 ?_
        refine gz_iload_n K dX0_writeWord_54 0 rfl ?_
        refine gz_aload_n K dX0_writeWord_55 1 rfl ?_
        refine gz_get K (v := .int (gz_i σ 9 2)) (by decide) (ce_9 _ _ _ _ _ _) rfl inz_X0 2 (by decide) zq1_116 rfl dX0_writeWord_56 ?_
        obtain ⟨h, hp⟩ := hp
        refine gz_idiv K dX0_writeWord_59 h ?_
        obtain ⟨h, hp⟩ := hp
        refine gz_iald K (by decide) (ce_10 _ _ _ _ _ _) h dX0_writeWord_60 ?_
        refine gz_callV K hex (c_X6_add K.2.2.2.2.2 K.2.2.1 h2 hp) cf_X6_add zq4_205 (ceW h2).1 ((ceW h2).2 _ _ _ _ _ _) rfl dX0_writeWord_61 rfl rfl (Nat.le_of_ble_eq_true rfl) ⟨Nat.le_of_ble_eq_true rfl, Nat.le_of_ble_eq_true rfl⟩ ⟨Nat.le_of_ble_eq_true rfl, Nat.le_of_ble_eq_true rfl⟩ (Nat.le_of_ble_eq_true rfl) (Nat.le_of_ble_eq_true rfl) (fun _ _ h => h.elim) (fun r61 τ61 hp => ?_)
        refine gz_norm (st' := [.int r61]) (cells' := 0) (slots' := 0) rfl rfl rfl ?_
        refine gz_pop K dX0_writeWord_64 rfl ?_
        refine gz_aload_n K dX0_writeWord_65 3 rfl ?_
        refine gz_aload_n K dX0_writeWord_66 1 rfl ?_
        refine gz_get K (v := .ref (ad 10)) (by decide) (ce_9 _ _ _ _ _ _) rfl inz_X0 0 (by decide) zq1_114 rfl dX0_writeWord_67 ?_
        refine gz_iload_n K dX0_writeWord_70 0 rfl ?_
        refine gz_aload_n K dX0_writeWord_71 1 rfl ?_
        refine gz_get K (v := .int (gz_i τ61 9 2)) (by decide) (ce_9 _ _ _ _ _ _) rfl inz_X0 2 (by decide) zq1_116 rfl dX0_writeWord_72 ?_
        obtain ⟨h, hp⟩ := hp
        refine gz_irem K dX0_writeWord_75 h ?_
        obtain ⟨h, hp⟩ := hp
        refine gz_iald K (by decide) (ce_10 _ _ _ _ _ _) h dX0_writeWord_76 ?_
        refine gz_callV K hex (c_X6_add K.2.2.2.2.2 K.2.2.1 h2 hp) cf_X6_add zq4_205 (ceW h2).1 ((ceW h2).2 _ _ _ _ _ _) rfl dX0_writeWord_77 rfl rfl (Nat.le_of_ble_eq_true rfl) ⟨Nat.le_of_ble_eq_true rfl, Nat.le_of_ble_eq_true rfl⟩ ⟨Nat.le_of_ble_eq_true rfl, Nat.le_of_ble_eq_true rfl⟩ (Nat.le_of_ble_eq_true rfl) (Nat.le_of_ble_eq_true rfl) (fun _ _ h => h.elim) (fun r77 τ77 hp => ?_)
        refine gz_norm (st' := [.int r77]) (cells' := 0) (slots' := 0) rfl rfl rfl ?_
        refine gz_pop K dX0_writeWord_80 rfl ?_
        exact gz_vret K hr hp dX0_writeWord_81 (Nat.le_of_ble_eq_true rfl) (Nat.le_of_ble_eq_true rfl)
  show Gz p l e r_X0_writeWord s m args below meth c D ad ty 4 0 0 (Ez below D ad ty nV0 (fun _ τ => post τ) (fun _ _ => False) args s 0 0) σ 0 [(0, .ref (ad 9)), (1, .int x1), (2, .ref (ad w2))] []
  refine gz_iload_n K dX0_writeWord_0 1 rfl ?_
  refine gz_if_lt K 26 dX0_writeWord_1 (by decide) (fun h => ?_) (fun h => ?_)
  · have hp := hp.1 h
    exact bb_26 σ x1  hp
  · have hp := hp.2 h
    refine gz_iload_n K dX0_writeWord_4 1 rfl ?_
    refine gz_aload_n K dX0_writeWord_5 0 rfl ?_
    refine gz_get K (v := .int (gz_i σ 9 2)) (by decide) (ce_9 _ _ _ _ _ _) rfl inz_X0 2 (by decide) zq1_116 rfl dX0_writeWord_6 ?_
    refine gz_icmp_ge K 26 dX0_writeWord_9 (by decide) (fun h => ?_) (fun h => ?_)
    · have hp := hp.1 h
      exact bb_26 σ x1  hp
    · have hp := hp.2 h
      refine gz_aload_n K dX0_writeWord_12 2 rfl ?_
      refine gz_aload_n K dX0_writeWord_13 0 rfl ?_
      refine gz_get K (v := .ref (ad 10)) (by decide) (ce_9 _ _ _ _ _ _) rfl inz_X0 0 (by decide) zq1_114 rfl dX0_writeWord_14 ?_
      refine gz_iload_n K dX0_writeWord_17 1 rfl ?_
      obtain ⟨h, hp⟩ := hp
      refine gz_iald K (by decide) (ce_10 _ _ _ _ _ _) h dX0_writeWord_18 ?_
      refine gz_callV K hex (c_X6_add K.2.2.2.2.2 K.2.2.1 h2 hp) cf_X6_add zq4_205 (ceW h2).1 ((ceW h2).2 _ _ _ _ _ _) rfl dX0_writeWord_19 rfl rfl (Nat.le_of_ble_eq_true rfl) ⟨Nat.le_of_ble_eq_true rfl, Nat.le_of_ble_eq_true rfl⟩ ⟨Nat.le_of_ble_eq_true rfl, Nat.le_of_ble_eq_true rfl⟩ (Nat.le_of_ble_eq_true rfl) (Nat.le_of_ble_eq_true rfl) (fun _ _ h => h.elim) (fun r19 τ19 hp => ?_)
      refine gz_norm (st' := [.int r19]) (cells' := 0) (slots' := 0) rfl rfl rfl ?_
      refine gz_pop K dX0_writeWord_22 rfl ?_
      refine gz_goto K 81 dX0_writeWord_23 (by decide) ?_
      exact gz_vret K hr hp dX0_writeWord_81 (Nat.le_of_ble_eq_true rfl) (Nat.le_of_ble_eq_true rfl)
set_option maxRecDepth 100000 in
set_option maxHeartbeats 4000000 in
theorem c_X6_length {l : Launch} {D : va_G} {ad : Nat → Nat} {ty : Nat → ClassId} (hl : l.stackTraces = false) (hj : ∀ i j, i < 68 → j < 68 → ad i = ad j → i = j) {σ : Dz} {w : Nat} (hw : isW w) {post : Int32 → Prop} (hp : P_X6_length σ w post) : Mz l D ad ty yX6_length cX6_length 1 (some .int) r_X6_length nI0 σ [.ref (ad w)] (fun r τ => σ = τ ∧ post r) (fun _ _ => False) := by
  refine mz_of (by decide) hl hj (Nat.le_of_ble_eq_true rfl) ?_
  intro p e s m args below meth c K hex hr
  unfold P_X6_length at hp
  show Gz p l e r_X6_length s m args below meth c D ad ty 1 0 0 (Ez below D ad ty nI0 (fun r τ => σ = τ ∧ post r) (fun _ _ => False) args s 0 0) σ 0 [(0, .ref (ad w))] []
  refine gz_aload_n K dX6_length_0 0 rfl ?_
  refine gz_get K (v := .int (gz_i σ w 1)) (ceW hw).1 ((ceW hw).2 _ _ _ _ _ _) rfl inz_X6 1 (by decide) zq1_173 rfl dX6_length_1 ?_
  exact gz_iret K hr ⟨rfl, hp⟩ dX6_length_4 (Nat.le_of_ble_eq_true rfl) (Nat.le_of_ble_eq_true rfl)
set_option maxRecDepth 100000 in
set_option maxHeartbeats 4000000 in
theorem c_X6_at {l : Launch} {D : va_G} {ad : Nat → Nat} {ty : Nat → ClassId} (hl : l.stackTraces = false) (hj : ∀ i j, i < 68 → j < 68 → ad i = ad j → i = j) {σ : Dz} {w : Nat} (hw : isW w) {x1 : Int32} {post : Int32 → Prop} (hp : P_X6_at σ w x1 post) : Mz l D ad ty yX6_at cX6_at 2 (some .int) r_X6_at nI0 σ [.ref (ad w), .int x1] (fun r τ => σ = τ ∧ post r) (fun _ _ => False) := by
  refine mz_of (by decide) hl hj (Nat.le_of_ble_eq_true rfl) ?_
  intro p e s m args below meth c K hex hr
  unfold P_X6_at at hp
  show Gz p l e r_X6_at s m args below meth c D ad ty 2 0 0 (Ez below D ad ty nI0 (fun r τ => σ = τ ∧ post r) (fun _ _ => False) args s 0 0) σ 0 [(0, .ref (ad w)), (1, .int x1)] []
  refine gz_iload_n K dX6_at_0 1 rfl ?_
  refine gz_if_lt K 21 dX6_at_1 (by decide) (fun h => ?_) (fun h => ?_)
  · have hp := hp.1 h
    refine gz_iconst K (v := (0 : Int32)) dX6_at_21 (by decide) ?_
    exact gz_iret K hr ⟨rfl, hp⟩ dX6_at_22 (Nat.le_of_ble_eq_true rfl) (Nat.le_of_ble_eq_true rfl)
  · have hp := hp.2 h
    refine gz_iload_n K dX6_at_4 1 rfl ?_
    refine gz_aload_n K dX6_at_5 0 rfl ?_
    refine gz_get K (v := .int (gz_i σ w 1)) (ceW hw).1 ((ceW hw).2 _ _ _ _ _ _) rfl inz_X6 1 (by decide) zq1_173 rfl dX6_at_6 ?_
    refine gz_icmp_ge K 21 dX6_at_9 (by decide) (fun h => ?_) (fun h => ?_)
    · have hp := hp.1 h
      refine gz_iconst K (v := (0 : Int32)) dX6_at_21 (by decide) ?_
      exact gz_iret K hr ⟨rfl, hp⟩ dX6_at_22 (Nat.le_of_ble_eq_true rfl) (Nat.le_of_ble_eq_true rfl)
    · have hp := hp.2 h
      refine gz_aload_n K dX6_at_12 0 rfl ?_
      refine gz_get K (v := .ref (ad (w + 1))) (ceW hw).1 ((ceW hw).2 _ _ _ _ _ _) rfl inz_X6 0 (by decide) zq1_172 rfl dX6_at_13 ?_
      refine gz_iload_n K dX6_at_16 1 rfl ?_
      obtain ⟨h, hp⟩ := hp
      refine gz_iald K (caW hw).1 ((caW hw).2 _ _ _ _ _ _) h dX6_at_17 ?_
      refine gz_goto K 22 dX6_at_18 (by decide) ?_
      exact gz_iret K hr ⟨rfl, hp⟩ dX6_at_22 (Nat.le_of_ble_eq_true rfl) (Nat.le_of_ble_eq_true rfl)
set_option maxRecDepth 100000 in
set_option maxHeartbeats 4000000 in
theorem c_X6_addInverseOfPart {l : Launch} {D : va_G} {ad : Nat → Nat} {ty : Nat → ClassId} (hl : l.stackTraces = false) (hj : ∀ i j, i < 68 → j < 68 → ad i = ad j → i = j) {σ : Dz} {w : Nat} {w1 : Nat} (hw : isW w) (h1 : isW w1) {x2 : Int32} {x3 : Int32} {post : Int32 → Dz → Prop} (hp : P_X6_addInverseOfPart σ w w1 x2 x3 post) : Mz l D ad ty yX6_addInverseOfPart cX6_addInverseOfPart 6 (some .boolean) r_X6_addInverseOfPart nI0 σ [.ref (ad w), .ref (ad w1), .int x2, .int x3] post (fun _ _ => False) := by
  refine mz_of (by decide) hl hj (Nat.le_of_ble_eq_true rfl) ?_
  intro p e s m args below meth c K hex hr
  unfold P_X6_addInverseOfPart at hp
  show Gz p l e r_X6_addInverseOfPart s m args below meth c D ad ty 6 0 0 (Ez below D ad ty nI0 post (fun _ _ => False) args s 0 0) σ 0 [(0, .ref (ad w)), (1, .ref (ad w1)), (2, .int x2), (3, .int x3)] []
  refine gz_iconst K (v := (1 : Int32)) dX6_addInverseOfPart_0 (by decide) ?_
  refine gz_istore K [(4, .int (1 : Int32)), (0, .ref (ad w)), (1, .ref (ad w1)), (2, .int x2), (3, .int x3)] dX6_addInverseOfPart_1 (by decide) rfl ?_
  refine gz_iload_n K dX6_addInverseOfPart_3 4 rfl ?_
  refine gz_iconst K (v := (1 : Int32)) dX6_addInverseOfPart_4 (by decide) ?_
  refine gz_isub K dX6_addInverseOfPart_5 ?_
  refine gz_istore K [(5, .int (x3 - (1 : Int32))), (4, .int (1 : Int32)), (0, .ref (ad w)), (1, .ref (ad w1)), (2, .int x2), (3, .int x3)] dX6_addInverseOfPart_6 (by decide) rfl ?_
  refine gz_sub [2, 3, 4, 1, 0] rfl ?_
  have ll_8 : ∀ (n_8 : Nat) (σ : Dz) (y2 : Int32) (y4 : Int32) (y5 : Int32) , L_X6_addInverseOfPart_8 w w1 post  n_8 σ y2 y4 y5 → Gz p l e r_X6_addInverseOfPart s m args below meth c D ad ty 6 0 0 (Ez below D ad ty nI0 post (fun _ _ => False) args s 0 0) σ 8 [(0, .ref (ad w)), (1, .ref (ad w1)), (2, .int y2), (4, .int y4), (5, .int y5)] [] := by
    intro n_8; induction n_8 with
    | zero => intro σ y2 y4 y5 hp; exact False.elim hp
    | succ n_8 ih_8 =>
      intro σ y2 y4 y5 hp
      have hp : B_X6_addInverseOfPart_8 w w1 post  (L_X6_addInverseOfPart_8 w w1 post  n_8) σ y2 y4 y5 := hp
      unfold B_X6_addInverseOfPart_8 at hp
      refine gz_iload K dX6_addInverseOfPart_8 3 rfl ?_
      refine gz_if_eq K 39 dX6_addInverseOfPart_10 (by decide) (fun h => ?_) (fun h => ?_)
      · have hp := hp.1 h
        refine gz_iload K dX6_addInverseOfPart_39 3 rfl ?_
        exact gz_zret K hr (nB hp.1) hp.2 dX6_addInverseOfPart_41 (Nat.le_of_ble_eq_true rfl) (Nat.le_of_ble_eq_true rfl)
      · have hp := hp.2 h
        refine gz_iload K dX6_addInverseOfPart_13 4 rfl ?_
        refine gz_iload_n K dX6_addInverseOfPart_15 2 rfl ?_
        refine gz_icmp_lt K 39 dX6_addInverseOfPart_16 (by decide) (fun h => ?_) (fun h => ?_)
        · have hp := hp.1 h
          refine gz_iload K dX6_addInverseOfPart_39 3 rfl ?_
          exact gz_zret K hr (nB hp.1) hp.2 dX6_addInverseOfPart_41 (Nat.le_of_ble_eq_true rfl) (Nat.le_of_ble_eq_true rfl)
        · have hp := hp.2 h
          refine gz_aload_n K dX6_addInverseOfPart_19 0 rfl ?_
          refine gz_aload_n K dX6_addInverseOfPart_20 1 rfl ?_
          refine gz_iload K dX6_addInverseOfPart_21 4 rfl ?_
          refine gz_callV K hex (c_X6_at K.2.2.2.2.2 K.2.2.1 h1 hp) cf_X6_at zq2_115 (ceW h1).1 ((ceW h1).2 _ _ _ _ _ _) rfl dX6_addInverseOfPart_23 rfl rfl (Nat.le_of_ble_eq_true rfl) ⟨Nat.le_of_ble_eq_true rfl, Nat.le_of_ble_eq_true rfl⟩ ⟨Nat.le_of_ble_eq_true rfl, Nat.le_of_ble_eq_true rfl⟩ (Nat.le_of_ble_eq_true rfl) (Nat.le_of_ble_eq_true rfl) (fun _ _ h => h.elim) (fun r23 τ hp => ?_)
          obtain ⟨rfl, hp⟩ := hp
          refine gz_norm (st' := [.int r23, .ref (ad w)]) (cells' := 0) (slots' := 0) rfl rfl rfl ?_
          refine gz_iconst K (v := (1 : Int32)) dX6_addInverseOfPart_26 (by decide) ?_
          refine gz_ixor K dX6_addInverseOfPart_27 ?_
          refine gz_callV K hex (c_X6_add K.2.2.2.2.2 K.2.2.1 hw hp) cf_X6_add zq2_119 (ceW hw).1 ((ceW hw).2 _ _ _ _ _ _) rfl dX6_addInverseOfPart_28 rfl rfl (Nat.le_of_ble_eq_true rfl) ⟨Nat.le_of_ble_eq_true rfl, Nat.le_of_ble_eq_true rfl⟩ ⟨Nat.le_of_ble_eq_true rfl, Nat.le_of_ble_eq_true rfl⟩ (Nat.le_of_ble_eq_true rfl) (Nat.le_of_ble_eq_true rfl) (fun _ _ h => h.elim) (fun r28 τ28 hp => ?_)
          refine gz_norm (st' := [.int r28]) (cells' := 0) (slots' := 0) rfl rfl rfl ?_
          refine gz_istore K [(4, .int r28), (0, .ref (ad w)), (1, .ref (ad w1)), (2, .int y2), (5, .int y5)] dX6_addInverseOfPart_31 (by decide) rfl ?_
          refine gz_iinc K (v := (y5 + (-1))) [(5, .int (y5 + (-1))), (4, .int r28), (0, .ref (ad w)), (1, .ref (ad w1)), (2, .int y2)] dX6_addInverseOfPart_33 4 rfl (by first | rfl | decide) (by decide) rfl ?_
          refine gz_goto K 8 dX6_addInverseOfPart_36 (by decide) ?_
          refine gz_sub [2, 3, 4, 1, 0] rfl ?_
          exact ih_8 τ28 y2 r28 (y5 + (-1))  hp
  obtain ⟨n, hp⟩ := hp
  exact ll_8 n σ x2 (1 : Int32) (x3 - (1 : Int32))  hp
set_option maxRecDepth 100000 in
set_option maxHeartbeats 4000000 in
theorem c_X6_closeCommutator {l : Launch} {D : va_G} {ad : Nat → Nat} {ty : Nat → ClassId} (hl : l.stackTraces = false) (hj : ∀ i j, i < 68 → j < 68 → ad i = ad j → i = j) {σ : Dz} {w : Nat} (hw : isW w) {x1 : Int32} {x2 : Int32} {post : Int32 → Dz → Prop} (hp : P_X6_closeCommutator σ w x1 x2 post) : Mz l D ad ty yX6_closeCommutator cX6_closeCommutator 4 (some .boolean) r_X6_closeCommutator nI0 σ [.ref (ad w), .int x1, .int x2] post (fun _ _ => False) := by
  refine mz_of (by decide) hl hj (Nat.le_of_ble_eq_true rfl) ?_
  intro p e s m args below meth c K hex hr
  unfold P_X6_closeCommutator at hp
  show Gz p l e r_X6_closeCommutator s m args below meth c D ad ty 4 0 0 (Ez below D ad ty nI0 post (fun _ _ => False) args s 0 0) σ 0 [(0, .ref (ad w)), (1, .int x1), (2, .int x2)] []
  refine gz_aload_n K dX6_closeCommutator_0 0 rfl ?_
  refine gz_get K (v := .int (gz_i σ w 1)) (ceW hw).1 ((ceW hw).2 _ _ _ _ _ _) rfl inz_X6 1 (by decide) zq1_173 rfl dX6_closeCommutator_1 ?_
  refine gz_istore_n K [(3, .int (gz_i σ w 1)), (0, .ref (ad w)), (1, .int x1), (2, .int x2)] dX6_closeCommutator_4 (by decide) rfl ?_
  refine gz_aload_n K dX6_closeCommutator_5 1 rfl ?_
  refine gz_aload_n K dX6_closeCommutator_6 1 rfl ?_
  refine gz_iload_n K dX6_closeCommutator_7 2 rfl ?_
  refine gz_iload_n K dX6_closeCommutator_8 3 rfl ?_
  refine gz_callV K hex (c_X6_addInverseOfPart K.2.2.2.2.2 K.2.2.1 hw hw hp) cf_X6_addInverseOfPart zq3_170 (ceW hw).1 ((ceW hw).2 _ _ _ _ _ _) rfl dX6_closeCommutator_9 rfl rfl (Nat.le_of_ble_eq_true rfl) ⟨Nat.le_of_ble_eq_true rfl, Nat.le_of_ble_eq_true rfl⟩ ⟨Nat.le_of_ble_eq_true rfl, Nat.le_of_ble_eq_true rfl⟩ (Nat.le_of_ble_eq_true rfl) (Nat.le_of_ble_eq_true rfl) (fun _ _ h => h.elim) (fun r9 τ9 hp => ?_)
  refine gz_norm (st' := [.int r9]) (cells' := 0) (slots' := 0) rfl rfl rfl ?_
  refine gz_if_eq K 29 dX6_closeCommutator_12 (by decide) (fun h => ?_) (fun h => ?_)
  · have hp := hp.1 h
    refine gz_iconst K (v := (0 : Int32)) dX6_closeCommutator_29 (by decide) ?_
    exact gz_zret K hr (by decide) hp dX6_closeCommutator_30 (Nat.le_of_ble_eq_true rfl) (Nat.le_of_ble_eq_true rfl)
  · have hp := hp.2 h
    refine gz_aload_n K dX6_closeCommutator_15 1 rfl ?_
    refine gz_aload_n K dX6_closeCommutator_16 1 rfl ?_
    refine gz_iload_n K dX6_closeCommutator_17 3 rfl ?_
    refine gz_iload_n K dX6_closeCommutator_18 0 rfl ?_
    refine gz_callV K hex (c_X6_addInverseOfPart K.2.2.2.2.2 K.2.2.1 hw hw hp) cf_X6_addInverseOfPart zq3_170 (ceW hw).1 ((ceW hw).2 _ _ _ _ _ _) rfl dX6_closeCommutator_19 rfl rfl (Nat.le_of_ble_eq_true rfl) ⟨Nat.le_of_ble_eq_true rfl, Nat.le_of_ble_eq_true rfl⟩ ⟨Nat.le_of_ble_eq_true rfl, Nat.le_of_ble_eq_true rfl⟩ (Nat.le_of_ble_eq_true rfl) (Nat.le_of_ble_eq_true rfl) (fun _ _ h => h.elim) (fun r19 τ19 hp => ?_)
    refine gz_norm (st' := [.int r19]) (cells' := 0) (slots' := 0) rfl rfl rfl ?_
    refine gz_if_eq K 29 dX6_closeCommutator_22 (by decide) (fun h => ?_) (fun h => ?_)
    · have hp := hp.1 h
      refine gz_iconst K (v := (0 : Int32)) dX6_closeCommutator_29 (by decide) ?_
      exact gz_zret K hr (by decide) hp dX6_closeCommutator_30 (Nat.le_of_ble_eq_true rfl) (Nat.le_of_ble_eq_true rfl)
    · have hp := hp.2 h
      refine gz_iconst K (v := (1 : Int32)) dX6_closeCommutator_25 (by decide) ?_
      refine gz_goto K 30 dX6_closeCommutator_26 (by decide) ?_
      exact gz_zret K hr (by decide) hp dX6_closeCommutator_30 (Nat.le_of_ble_eq_true rfl) (Nat.le_of_ble_eq_true rfl)
set_option maxRecDepth 100000 in
set_option maxHeartbeats 4000000 in
theorem c_X0_find {l : Launch} {D : va_G} {ad : Nat → Nat} {ty : Nat → ClassId} (hl : l.stackTraces = false) (hj : ∀ i j, i < 68 → j < 68 → ad i = ad j → i = j) {σ : Dz} {k1 : Nat} {w3 : Nat} (h1 : isS k1) (h3 : isW w3) {x2 : Int32} {post : Int32 → Dz → Prop} (hp : P_X0_find σ k1 w3 x2 post) : Mz l D ad ty yX0_find cX0_find 6 (some .boolean) r_X0_find nI0 σ [.ref (ad 9), .ref (ad k1), .int x2, .ref (ad w3)] post (fun _ _ => False) := by
  refine mz_of (by decide) hl hj (Nat.le_of_ble_eq_true rfl) ?_
  intro p e s m args below meth c K hex hr
  unfold P_X0_find at hp
  have bb_62 : ∀ (σ : Dz) (z0 : Int32) , B_X0_find_62 k1 w3 post  σ z0 → Gz p l e r_X0_find s m args below meth c D ad ty 6 0 0 (Ez below D ad ty nI0 post (fun _ _ => False) args s 0 0) σ 62 [(0, .ref (ad 9)), (3, .ref (ad w3))] [.int z0] := by
    intro σ z0 hp
    unfold B_X0_find_62 at hp
    refine gz_istore K [(4, .int z0), (0, .ref (ad 9)), (3, .ref (ad w3))] dX0_find_62 (by decide) rfl ?_
    refine gz_iload K dX0_find_64 0 rfl ?_
    refine gz_if_eq K 105 dX0_find_66 (by decide) (fun h => ?_) (fun h => ?_)
    · have hp := hp.1 h
      refine gz_iload K dX0_find_105 0 rfl ?_
      exact gz_zret K hr (nB hp.1) hp.2 dX0_find_107 (Nat.le_of_ble_eq_true rfl) (Nat.le_of_ble_eq_true rfl)
    · have hp := hp.2 h
      refine gz_aload_n K dX0_find_69 2 rfl ?_
      refine gz_callV K hex (c_X6_clear K.2.2.2.2.2 K.2.2.1 h3 hp) cf_X6_clear zq4_200 (ceW h3).1 ((ceW h3).2 _ _ _ _ _ _) rfl dX0_find_70 rfl rfl (Nat.le_of_ble_eq_true rfl) ⟨Nat.le_of_ble_eq_true rfl, Nat.le_of_ble_eq_true rfl⟩ ⟨Nat.le_of_ble_eq_true rfl, Nat.le_of_ble_eq_true rfl⟩ (Nat.le_of_ble_eq_true rfl) (Nat.le_of_ble_eq_true rfl) (fun _ _ h => h.elim) (fun _ τ70 hp => ?_)
      refine gz_norm (st' := []) (cells' := 0) (slots' := 0) rfl rfl rfl ?_
      refine gz_aload_n K dX0_find_73 1 rfl ?_
      refine gz_aload_n K dX0_find_74 1 rfl ?_
      refine gz_get K (v := .int (gz_i τ70 9 3)) (by decide) (ce_9 _ _ _ _ _ _) rfl inz_X0 3 (by decide) zq1_117 rfl dX0_find_75 ?_
      refine gz_aload_n K dX0_find_78 2 rfl ?_
      refine gz_callV K hex (c_X0_writeWord K.2.2.2.2.2 K.2.2.1 h3 hp) cf_X0_writeWord zq4_201 (by decide) (ce_9 _ _ _ _ _ _) rfl dX0_find_79 rfl rfl (Nat.le_of_ble_eq_true rfl) ⟨Nat.le_of_ble_eq_true rfl, Nat.le_of_ble_eq_true rfl⟩ ⟨Nat.le_of_ble_eq_true rfl, Nat.le_of_ble_eq_true rfl⟩ (Nat.le_of_ble_eq_true rfl) (Nat.le_of_ble_eq_true rfl) (fun _ _ h => h.elim) (fun _ τ79 hp => ?_)
      refine gz_norm (st' := []) (cells' := 0) (slots' := 0) rfl rfl rfl ?_
      refine gz_aload_n K dX0_find_82 2 rfl ?_
      refine gz_callV K hex (c_X6_length K.2.2.2.2.2 K.2.2.1 h3 hp) cf_X6_length zq4_206 (ceW h3).1 ((ceW h3).2 _ _ _ _ _ _) rfl dX0_find_83 rfl rfl (Nat.le_of_ble_eq_true rfl) ⟨Nat.le_of_ble_eq_true rfl, Nat.le_of_ble_eq_true rfl⟩ ⟨Nat.le_of_ble_eq_true rfl, Nat.le_of_ble_eq_true rfl⟩ (Nat.le_of_ble_eq_true rfl) (Nat.le_of_ble_eq_true rfl) (fun _ _ h => h.elim) (fun r83 τ hp => ?_)
      obtain ⟨rfl, hp⟩ := hp
      refine gz_norm (st' := [.int r83]) (cells' := 0) (slots' := 0) rfl rfl rfl ?_
      refine gz_istore K [(5, .int r83), (4, .int z0), (0, .ref (ad 9)), (3, .ref (ad w3))] dX0_find_86 (by decide) rfl ?_
      refine gz_aload_n K dX0_find_88 2 rfl ?_
      refine gz_aload_n K dX0_find_89 2 rfl ?_
      refine gz_get K (v := .int (gz_i τ79 9 4)) (by decide) (ce_9 _ _ _ _ _ _) rfl inz_X0 4 (by decide) zq1_118 rfl dX0_find_90 ?_
      refine gz_aload_n K dX0_find_93 3 rfl ?_
      refine gz_callV K hex (c_X0_writeWord K.2.2.2.2.2 K.2.2.1 h3 hp) cf_X0_writeWord zq4_201 (by decide) (ce_9 _ _ _ _ _ _) rfl dX0_find_94 rfl rfl (Nat.le_of_ble_eq_true rfl) ⟨Nat.le_of_ble_eq_true rfl, Nat.le_of_ble_eq_true rfl⟩ ⟨Nat.le_of_ble_eq_true rfl, Nat.le_of_ble_eq_true rfl⟩ (Nat.le_of_ble_eq_true rfl) (Nat.le_of_ble_eq_true rfl) (fun _ _ h => h.elim) (fun _ τ94 hp => ?_)
      refine gz_norm (st' := []) (cells' := 0) (slots' := 0) rfl rfl rfl ?_
      refine gz_aload_n K dX0_find_97 3 rfl ?_
      refine gz_iconst K (v := (0 : Int32)) dX0_find_98 (by decide) ?_
      refine gz_iload K dX0_find_99 0 rfl ?_
      refine gz_callV K hex (c_X6_closeCommutator K.2.2.2.2.2 K.2.2.1 h3 hp) cf_X6_closeCommutator zq4_207 (ceW h3).1 ((ceW h3).2 _ _ _ _ _ _) rfl dX0_find_101 rfl rfl (Nat.le_of_ble_eq_true rfl) ⟨Nat.le_of_ble_eq_true rfl, Nat.le_of_ble_eq_true rfl⟩ ⟨Nat.le_of_ble_eq_true rfl, Nat.le_of_ble_eq_true rfl⟩ (Nat.le_of_ble_eq_true rfl) (Nat.le_of_ble_eq_true rfl) (fun _ _ h => h.elim) (fun r101 τ101 hp => ?_)
      refine gz_norm (st' := [.int r101]) (cells' := 0) (slots' := 0) rfl rfl rfl ?_
      refine gz_pop K dX0_find_104 rfl ?_
      refine gz_iload K dX0_find_105 1 rfl ?_
      exact gz_zret K hr (nB hp.1) hp.2 dX0_find_107 (Nat.le_of_ble_eq_true rfl) (Nat.le_of_ble_eq_true rfl)
  have bb_57 : ∀ (σ : Dz) , B_X0_find_57 k1 w3 post  σ → Gz p l e r_X0_find s m args below meth c D ad ty 6 0 0 (Ez below D ad ty nI0 post (fun _ _ => False) args s 0 0) σ 57 [(0, .ref (ad 9)), (3, .ref (ad w3))] [] := by
    intro σ hp
    unfold B_X0_find_57 at hp
    refine gz_iconst K (v := (1 : Int32)) dX0_find_57 (by decide) ?_
    refine gz_goto K 62 dX0_find_58 (by decide) ?_
    exact bb_62 σ (1 : Int32)  hp
  show Gz p l e r_X0_find s m args below meth c D ad ty 6 0 0 (Ez below D ad ty nI0 post (fun _ _ => False) args s 0 0) σ 0 [(0, .ref (ad 9)), (1, .ref (ad k1)), (2, .int x2), (3, .ref (ad w3))] []
  refine gz_iload_n K dX0_find_0 2 rfl ?_
  refine gz_if_lt K 10 dX0_find_1 (by decide) (fun h => ?_) (fun h => ?_)
  · have hp := hp.1 h
    refine gz_iconst K (v := (0 : Int32)) dX0_find_10 (by decide) ?_
    exact gz_zret K hr (by decide) hp dX0_find_11 (Nat.le_of_ble_eq_true rfl) (Nat.le_of_ble_eq_true rfl)
  · have hp := hp.2 h
    refine gz_iload_n K dX0_find_4 2 rfl ?_
    refine gz_bipush K (v := (7 : Int32)) dX0_find_5 (by decide) ?_
    refine gz_icmp_le K 12 dX0_find_7 (by decide) (fun h => ?_) (fun h => ?_)
    · have hp := hp.1 h
      refine gz_aload_n K dX0_find_12 0 rfl ?_
      refine gz_aload_n K dX0_find_13 1 rfl ?_
      refine gz_callV K hex (c_X0_listWords K.2.2.2.2.2 K.2.2.1 h1 hp) cf_X0_listWords zq4_181 (by decide) (ce_9 _ _ _ _ _ _) rfl dX0_find_14 rfl rfl (Nat.le_of_ble_eq_true rfl) ⟨Nat.le_of_ble_eq_true rfl, Nat.le_of_ble_eq_true rfl⟩ ⟨Nat.le_of_ble_eq_true rfl, Nat.le_of_ble_eq_true rfl⟩ (Nat.le_of_ble_eq_true rfl) (Nat.le_of_ble_eq_true rfl) (fun _ _ h => h.elim) (fun _ τ14 hp => ?_)
      refine gz_norm (st' := []) (cells' := 0) (slots' := 0) rfl rfl rfl ?_
      refine gz_aload_n K dX0_find_17 0 rfl ?_
      refine gz_iconst K (v := (1 : Int32)) dX0_find_18 (by decide) ?_
      refine gz_iconst K (v := (1 : Int32)) dX0_find_19 (by decide) ?_
      refine gz_iload_n K dX0_find_20 2 rfl ?_
      refine gz_callV K hex (c_X0_findAmong K.2.2.2.2.2 K.2.2.1 hp) cf_X0_findAmong zq4_188 (by decide) (ce_9 _ _ _ _ _ _) rfl dX0_find_21 rfl rfl (Nat.le_of_ble_eq_true rfl) ⟨Nat.le_of_ble_eq_true rfl, Nat.le_of_ble_eq_true rfl⟩ ⟨Nat.le_of_ble_eq_true rfl, Nat.le_of_ble_eq_true rfl⟩ (Nat.le_of_ble_eq_true rfl) (Nat.le_of_ble_eq_true rfl) (fun _ _ h => h.elim) (fun r21 τ21 hp => ?_)
      refine gz_norm (st' := [.int r21]) (cells' := 0) (slots' := 0) rfl rfl rfl ?_
      refine gz_if_ne K 57 dX0_find_24 (by decide) (fun h => ?_) (fun h => ?_)
      · have hp := hp.1 h
        refine gz_sub [0, 3] rfl ?_
        exact bb_57 τ21  hp
      · have hp := hp.2 h
        refine gz_aload_n K dX0_find_27 0 rfl ?_
        refine gz_iconst K (v := (1 : Int32)) dX0_find_28 (by decide) ?_
        refine gz_iconst K (v := (2 : Int32)) dX0_find_29 (by decide) ?_
        refine gz_iload_n K dX0_find_30 2 rfl ?_
        refine gz_callV K hex (c_X0_findAmong K.2.2.2.2.2 K.2.2.1 hp) cf_X0_findAmong zq4_188 (by decide) (ce_9 _ _ _ _ _ _) rfl dX0_find_31 rfl rfl (Nat.le_of_ble_eq_true rfl) ⟨Nat.le_of_ble_eq_true rfl, Nat.le_of_ble_eq_true rfl⟩ ⟨Nat.le_of_ble_eq_true rfl, Nat.le_of_ble_eq_true rfl⟩ (Nat.le_of_ble_eq_true rfl) (Nat.le_of_ble_eq_true rfl) (fun _ _ h => h.elim) (fun r31 τ31 hp => ?_)
        refine gz_norm (st' := [.int r31]) (cells' := 0) (slots' := 0) rfl rfl rfl ?_
        refine gz_if_ne K 57 dX0_find_34 (by decide) (fun h => ?_) (fun h => ?_)
        · have hp := hp.1 h
          refine gz_sub [0, 3] rfl ?_
          exact bb_57 τ31  hp
        · have hp := hp.2 h
          refine gz_aload_n K dX0_find_37 0 rfl ?_
          refine gz_iconst K (v := (2 : Int32)) dX0_find_38 (by decide) ?_
          refine gz_iconst K (v := (1 : Int32)) dX0_find_39 (by decide) ?_
          refine gz_iload_n K dX0_find_40 2 rfl ?_
          refine gz_callV K hex (c_X0_findAmong K.2.2.2.2.2 K.2.2.1 hp) cf_X0_findAmong zq4_188 (by decide) (ce_9 _ _ _ _ _ _) rfl dX0_find_41 rfl rfl (Nat.le_of_ble_eq_true rfl) ⟨Nat.le_of_ble_eq_true rfl, Nat.le_of_ble_eq_true rfl⟩ ⟨Nat.le_of_ble_eq_true rfl, Nat.le_of_ble_eq_true rfl⟩ (Nat.le_of_ble_eq_true rfl) (Nat.le_of_ble_eq_true rfl) (fun _ _ h => h.elim) (fun r41 τ41 hp => ?_)
          refine gz_norm (st' := [.int r41]) (cells' := 0) (slots' := 0) rfl rfl rfl ?_
          refine gz_if_ne K 57 dX0_find_44 (by decide) (fun h => ?_) (fun h => ?_)
          · have hp := hp.1 h
            refine gz_sub [0, 3] rfl ?_
            exact bb_57 τ41  hp
          · have hp := hp.2 h
            refine gz_aload_n K dX0_find_47 0 rfl ?_
            refine gz_iconst K (v := (2 : Int32)) dX0_find_48 (by decide) ?_
            refine gz_iconst K (v := (2 : Int32)) dX0_find_49 (by decide) ?_
            refine gz_iload_n K dX0_find_50 2 rfl ?_
            refine gz_callV K hex (c_X0_findAmong K.2.2.2.2.2 K.2.2.1 hp) cf_X0_findAmong zq4_188 (by decide) (ce_9 _ _ _ _ _ _) rfl dX0_find_51 rfl rfl (Nat.le_of_ble_eq_true rfl) ⟨Nat.le_of_ble_eq_true rfl, Nat.le_of_ble_eq_true rfl⟩ ⟨Nat.le_of_ble_eq_true rfl, Nat.le_of_ble_eq_true rfl⟩ (Nat.le_of_ble_eq_true rfl) (Nat.le_of_ble_eq_true rfl) (fun _ _ h => h.elim) (fun r51 τ51 hp => ?_)
            refine gz_norm (st' := [.int r51]) (cells' := 0) (slots' := 0) rfl rfl rfl ?_
            refine gz_if_eq K 61 dX0_find_54 (by decide) (fun h => ?_) (fun h => ?_)
            · have hp := hp.1 h
              refine gz_iconst K (v := (0 : Int32)) dX0_find_61 (by decide) ?_
              refine gz_sub [0, 3] rfl ?_
              exact bb_62 τ51 (0 : Int32)  hp
            · have hp := hp.2 h
              refine gz_sub [0, 3] rfl ?_
              exact bb_57 τ51  hp
    · have hp := hp.2 h
      refine gz_iconst K (v := (0 : Int32)) dX0_find_10 (by decide) ?_
      exact gz_zret K hr (by decide) hp dX0_find_11 (Nat.le_of_ble_eq_true rfl) (Nat.le_of_ble_eq_true rfl)
set_option maxRecDepth 100000 in
set_option maxHeartbeats 4000000 in
theorem c_X5_length {l : Launch} {D : va_G} {ad : Nat → Nat} {ty : Nat → ClassId} (hl : l.stackTraces = false) (hj : ∀ i j, i < 68 → j < 68 → ad i = ad j → i = j) {σ : Dz} {post : Int32 → Prop} (hp : P_X5_length σ post) : Mz l D ad ty yX5_length cX5_length 1 (some .int) r_X5_length nI0 σ [.ref (ad 1)] (fun r τ => σ = τ ∧ post r) (fun _ _ => False) := by
  refine mz_of (by decide) hl hj (Nat.le_of_ble_eq_true rfl) ?_
  intro p e s m args below meth c K hex hr
  unfold P_X5_length at hp
  show Gz p l e r_X5_length s m args below meth c D ad ty 1 0 0 (Ez below D ad ty nI0 (fun r τ => σ = τ ∧ post r) (fun _ _ => False) args s 0 0) σ 0 [(0, .ref (ad 1))] []
  refine gz_aload_n K dX5_length_0 0 rfl ?_
  refine gz_get K (v := .int (gz_i σ 1 1)) (by decide) (ce_1 _ _ _ _ _ _) rfl inz_X5 1 (by decide) zq1_39 rfl dX5_length_1 ?_
  exact gz_iret K hr ⟨rfl, hp⟩ dX5_length_4 (Nat.le_of_ble_eq_true rfl) (Nat.le_of_ble_eq_true rfl)
set_option maxRecDepth 100000 in
set_option maxHeartbeats 4000000 in
theorem c_X5_at {l : Launch} {D : va_G} {ad : Nat → Nat} {ty : Nat → ClassId} (hl : l.stackTraces = false) (hj : ∀ i j, i < 68 → j < 68 → ad i = ad j → i = j) {σ : Dz} {x1 : Int32} {post : Int32 → Prop} (hp : P_X5_at σ x1 post) : Mz l D ad ty yX5_at cX5_at 2 (some .char) r_X5_at nI0 σ [.ref (ad 1), .int x1] (fun r τ => σ = τ ∧ post r) (fun _ _ => False) := by
  refine mz_of (by decide) hl hj (Nat.le_of_ble_eq_true rfl) ?_
  intro p e s m args below meth c K hex hr
  unfold P_X5_at at hp
  show Gz p l e r_X5_at s m args below meth c D ad ty 2 0 0 (Ez below D ad ty nI0 (fun r τ => σ = τ ∧ post r) (fun _ _ => False) args s 0 0) σ 0 [(0, .ref (ad 1)), (1, .int x1)] []
  refine gz_iload_n K dX5_at_0 1 rfl ?_
  refine gz_if_lt K 21 dX5_at_1 (by decide) (fun h => ?_) (fun h => ?_)
  · have hp := hp.1 h
    refine gz_iconst K (v := (0 : Int32)) dX5_at_21 (by decide) ?_
    exact gz_zret K hr hp.1 ⟨rfl, hp.2⟩ dX5_at_22 (Nat.le_of_ble_eq_true rfl) (Nat.le_of_ble_eq_true rfl)
  · have hp := hp.2 h
    refine gz_iload_n K dX5_at_4 1 rfl ?_
    refine gz_aload_n K dX5_at_5 0 rfl ?_
    refine gz_get K (v := .int (gz_i σ 1 1)) (by decide) (ce_1 _ _ _ _ _ _) rfl inz_X5 1 (by decide) zq1_39 rfl dX5_at_6 ?_
    refine gz_icmp_ge K 21 dX5_at_9 (by decide) (fun h => ?_) (fun h => ?_)
    · have hp := hp.1 h
      refine gz_iconst K (v := (0 : Int32)) dX5_at_21 (by decide) ?_
      exact gz_zret K hr hp.1 ⟨rfl, hp.2⟩ dX5_at_22 (Nat.le_of_ble_eq_true rfl) (Nat.le_of_ble_eq_true rfl)
    · have hp := hp.2 h
      refine gz_aload_n K dX5_at_12 0 rfl ?_
      refine gz_get K (v := .ref (ad 2)) (by decide) (ce_1 _ _ _ _ _ _) rfl inz_X5 0 (by decide) zq1_38 rfl dX5_at_13 ?_
      refine gz_iload_n K dX5_at_16 1 rfl ?_
      obtain ⟨h, hp⟩ := hp
      refine gz_cald K (by decide) (ce_2 _ _ _ _ _ _) h dX5_at_17 ?_
      refine gz_goto K 22 dX5_at_18 (by decide) ?_
      exact gz_zret K hr hp.1 ⟨rfl, hp.2⟩ dX5_at_22 (Nat.le_of_ble_eq_true rfl) (Nat.le_of_ble_eq_true rfl)
set_option maxRecDepth 100000 in
set_option maxHeartbeats 4000000 in
theorem c_X3_withImage {l : Launch} {D : va_G} {ad : Nat → Nat} {ty : Nat → ClassId} (hl : l.stackTraces = false) (hj : ∀ i j, i < 68 → j < 68 → ad i = ad j → i = j) {σ : Dz} {x0 : Int32} {x1 : Int32} {x2 : Int32} {post : Int32 → Prop} (hp : P_X3_withImage x0 x1 x2 post) : Mz l D ad ty yX3_withImage cX3_withImage 3 (some .int) r_X3_withImage nI0 σ [.int x0, .int x1, .int x2] (fun r τ => σ = τ ∧ post r) (fun _ _ => False) := by
  refine mz_of (by decide) hl hj (Nat.le_of_ble_eq_true rfl) ?_
  intro p e s m args below meth c K hex hr
  unfold P_X3_withImage at hp
  show Gz p l e r_X3_withImage s m args below meth c D ad ty 3 0 0 (Ez below D ad ty nI0 (fun r τ => σ = τ ∧ post r) (fun _ _ => False) args s 0 0) σ 0 [(0, .int x0), (1, .int x1), (2, .int x2)] []
  refine gz_iload_n K dX3_withImage_0 0 rfl ?_
  refine gz_bipush K (v := (7 : Int32)) dX3_withImage_1 (by decide) ?_
  refine gz_iconst K (v := (3 : Int32)) dX3_withImage_3 (by decide) ?_
  refine gz_iload_n K dX3_withImage_4 1 rfl ?_
  refine gz_imul K dX3_withImage_5 ?_
  refine gz_ishl K dX3_withImage_6 ?_
  refine gz_iconst K (v := (-1 : Int32)) dX3_withImage_7 (by decide) ?_
  refine gz_ixor K dX3_withImage_8 ?_
  refine gz_iand K dX3_withImage_9 ?_
  refine gz_iload_n K dX3_withImage_10 2 rfl ?_
  refine gz_iconst K (v := (3 : Int32)) dX3_withImage_11 (by decide) ?_
  refine gz_iload_n K dX3_withImage_12 1 rfl ?_
  refine gz_imul K dX3_withImage_13 ?_
  refine gz_ishl K dX3_withImage_14 ?_
  refine gz_ior K dX3_withImage_15 ?_
  exact gz_iret K hr ⟨rfl, hp⟩ dX3_withImage_16 (Nat.le_of_ble_eq_true rfl) (Nat.le_of_ble_eq_true rfl)
set_option maxRecDepth 100000 in
set_option maxHeartbeats 4000000 in
theorem c_X1_acceptsPosition {l : Launch} {D : va_G} {ad : Nat → Nat} {ty : Nat → ClassId} (hl : l.stackTraces = false) (hj : ∀ i j, i < 68 → j < 68 → ad i = ad j → i = j) {σ : Dz} {x1 : Int32} {x2 : Int32} {post : Int32 → Dz → Prop} (hp : P_X1_acceptsPosition σ x1 x2 post) : Mz l D ad ty yX1_acceptsPosition cX1_acceptsPosition 3 (some .boolean) r_X1_acceptsPosition nI0 σ [.ref (ad 3), .int x1, .int x2] post (fun _ _ => False) := by
  refine mz_of (by decide) hl hj (Nat.le_of_ble_eq_true rfl) ?_
  intro p e s m args below meth c K hex hr
  unfold P_X1_acceptsPosition at hp
  have bb_66 : ∀ (σ : Dz) (y1 : Int32) , B_X1_acceptsPosition_66 post  σ y1 → Gz p l e r_X1_acceptsPosition s m args below meth c D ad ty 3 0 0 (Ez below D ad ty nI0 post (fun _ _ => False) args s 0 0) σ 66 [(0, .ref (ad 3)), (1, .int y1)] [] := by
    intro σ y1 hp
    unfold B_X1_acceptsPosition_66 at hp
    refine gz_aload_n K dX1_acceptsPosition_66 0 rfl ?_
    refine gz_iload_n K dX1_acceptsPosition_67 1 rfl ?_
    refine gz_put K (x := y1) (by decide) (ce_3 _ _ _ _ _ _) rfl inz_X1 tyX1 tyX1_ok nmX1 4 (by decide) zq1_57 rfl (tyX1_ok _ (by decide)) rfl rfl (Nat.le_of_ble_eq_true rfl) peX1_4 dX1_acceptsPosition_68 ?_
    refine gz_aload_n K dX1_acceptsPosition_71 0 rfl ?_
    refine gz_dup K dX1_acceptsPosition_72 rfl ?_
    refine gz_get K (v := .int (gz_i (sz_i σ 3 4 y1) 3 2)) (by decide) (ce_3 _ _ _ _ _ _) rfl inz_X1 2 (by decide) zq1_55 rfl dX1_acceptsPosition_73 ?_
    refine gz_iconst K (v := (1 : Int32)) dX1_acceptsPosition_76 (by decide) ?_
    refine gz_iadd K dX1_acceptsPosition_77 ?_
    refine gz_put K (x := ((gz_i (sz_i σ 3 4 y1) 3 2) + (1 : Int32))) (by decide) (ce_3 _ _ _ _ _ _) rfl inz_X1 tyX1 tyX1_ok nmX1 2 (by decide) zq1_55 rfl (tyX1_ok _ (by decide)) rfl rfl (Nat.le_of_ble_eq_true rfl) peX1_2 dX1_acceptsPosition_78 ?_
    refine gz_iconst K (v := (1 : Int32)) dX1_acceptsPosition_81 (by decide) ?_
    exact gz_zret K hr (by decide) hp dX1_acceptsPosition_82 (Nat.le_of_ble_eq_true rfl) (Nat.le_of_ble_eq_true rfl)
  show Gz p l e r_X1_acceptsPosition s m args below meth c D ad ty 3 0 0 (Ez below D ad ty nI0 post (fun _ _ => False) args s 0 0) σ 0 [(0, .ref (ad 3)), (1, .int x1), (2, .int x2)] []
  refine gz_iload_n K dX1_acceptsPosition_0 1 rfl ?_
  refine gz_if_lt K 21 dX1_acceptsPosition_1 (by decide) (fun h => ?_) (fun h => ?_)
  · have hp := hp.1 h
    refine gz_iconst K (v := (0 : Int32)) dX1_acceptsPosition_21 (by decide) ?_
    exact gz_zret K hr (by decide) hp dX1_acceptsPosition_22 (Nat.le_of_ble_eq_true rfl) (Nat.le_of_ble_eq_true rfl)
  · have hp := hp.2 h
    refine gz_iload_n K dX1_acceptsPosition_4 1 rfl ?_
    refine gz_iload_n K dX1_acceptsPosition_5 2 rfl ?_
    refine gz_icmp_ge K 21 dX1_acceptsPosition_6 (by decide) (fun h => ?_) (fun h => ?_)
    · have hp := hp.1 h
      refine gz_iconst K (v := (0 : Int32)) dX1_acceptsPosition_21 (by decide) ?_
      exact gz_zret K hr (by decide) hp dX1_acceptsPosition_22 (Nat.le_of_ble_eq_true rfl) (Nat.le_of_ble_eq_true rfl)
    · have hp := hp.2 h
      refine gz_aload_n K dX1_acceptsPosition_9 0 rfl ?_
      refine gz_get K (v := .int (gz_i σ 3 1)) (by decide) (ce_3 _ _ _ _ _ _) rfl inz_X1 1 (by decide) zq1_54 rfl dX1_acceptsPosition_10 ?_
      refine gz_iload_n K dX1_acceptsPosition_13 1 rfl ?_
      refine gz_iushr K dX1_acceptsPosition_14 ?_
      refine gz_iconst K (v := (1 : Int32)) dX1_acceptsPosition_15 (by decide) ?_
      refine gz_iand K dX1_acceptsPosition_16 ?_
      refine gz_iconst K (v := (1 : Int32)) dX1_acceptsPosition_17 (by decide) ?_
      refine gz_icmp_ne K 23 dX1_acceptsPosition_18 (by decide) (fun h => ?_) (fun h => ?_)
      · have hp := hp.1 h
        refine gz_aload_n K dX1_acceptsPosition_23 0 rfl ?_
        refine gz_dup K dX1_acceptsPosition_24 rfl ?_
        refine gz_get K (v := .int (gz_i σ 3 1)) (by decide) (ce_3 _ _ _ _ _ _) rfl inz_X1 1 (by decide) zq1_54 rfl dX1_acceptsPosition_25 ?_
        refine gz_iconst K (v := (1 : Int32)) dX1_acceptsPosition_28 (by decide) ?_
        refine gz_iload_n K dX1_acceptsPosition_29 1 rfl ?_
        refine gz_ishl K dX1_acceptsPosition_30 ?_
        refine gz_ior K dX1_acceptsPosition_31 ?_
        refine gz_put K (x := ((gz_i σ 3 1) ||| ((1 : Int32) <<< (x1 &&& 31)))) (by decide) (ce_3 _ _ _ _ _ _) rfl inz_X1 tyX1 tyX1_ok nmX1 1 (by decide) zq1_54 rfl (tyX1_ok _ (by decide)) rfl rfl (Nat.le_of_ble_eq_true rfl) peX1_1 dX1_acceptsPosition_32 ?_
        refine gz_aload_n K dX1_acceptsPosition_35 0 rfl ?_
        refine gz_get K (v := .int (gz_i (sz_i σ 3 1 ((gz_i σ 3 1) ||| ((1 : Int32) <<< (x1 &&& 31)))) 3 2)) (by decide) (ce_3 _ _ _ _ _ _) rfl inz_X1 2 (by decide) zq1_55 rfl dX1_acceptsPosition_36 ?_
        refine gz_if_ne K 50 dX1_acceptsPosition_39 (by decide) (fun h => ?_) (fun h => ?_)
        · have hp := hp.1 h
          refine gz_aload_n K dX1_acceptsPosition_50 0 rfl ?_
          refine gz_aload_n K dX1_acceptsPosition_51 0 rfl ?_
          refine gz_get K (v := .int (gz_i (sz_i σ 3 1 ((gz_i σ 3 1) ||| ((1 : Int32) <<< (x1 &&& 31)))) 3 0)) (by decide) (ce_3 _ _ _ _ _ _) rfl inz_X1 0 (by decide) zq1_53 rfl dX1_acceptsPosition_52 ?_
          refine gz_aload_n K dX1_acceptsPosition_55 0 rfl ?_
          refine gz_get K (v := .int (gz_i (sz_i σ 3 1 ((gz_i σ 3 1) ||| ((1 : Int32) <<< (x1 &&& 31)))) 3 4)) (by decide) (ce_3 _ _ _ _ _ _) rfl inz_X1 4 (by decide) zq1_57 rfl dX1_acceptsPosition_56 ?_
          refine gz_iload_n K dX1_acceptsPosition_59 1 rfl ?_
          refine gz_callS K hex (c_X3_withImage K.2.2.2.2.2 K.2.2.1 hp) cf_X3_withImage zq3_56 dX1_acceptsPosition_60 rfl rfl (Nat.le_of_ble_eq_true rfl) ⟨Nat.le_of_ble_eq_true rfl, Nat.le_of_ble_eq_true rfl⟩ ⟨Nat.le_of_ble_eq_true rfl, Nat.le_of_ble_eq_true rfl⟩ (Nat.le_of_ble_eq_true rfl) (Nat.le_of_ble_eq_true rfl) (fun _ _ h => h.elim) (fun r60 τ hp => ?_)
          obtain ⟨rfl, hp⟩ := hp
          refine gz_norm (st' := [.int r60, .ref (ad 3)]) (cells' := 0) (slots' := 0) rfl rfl rfl ?_
          refine gz_put K (x := r60) (by decide) (ce_3 _ _ _ _ _ _) rfl inz_X1 tyX1 tyX1_ok nmX1 0 (by decide) zq1_53 rfl (tyX1_ok _ (by decide)) rfl rfl (Nat.le_of_ble_eq_true rfl) peX1_0 dX1_acceptsPosition_63 ?_
          refine gz_sub [0, 1] rfl ?_
          exact bb_66 (sz_i (sz_i σ 3 1 ((gz_i σ 3 1) ||| ((1 : Int32) <<< (x1 &&& 31)))) 3 0 r60) x1  hp
        · have hp := hp.2 h
          refine gz_aload_n K dX1_acceptsPosition_42 0 rfl ?_
          refine gz_iload_n K dX1_acceptsPosition_43 1 rfl ?_
          refine gz_put K (x := x1) (by decide) (ce_3 _ _ _ _ _ _) rfl inz_X1 tyX1 tyX1_ok nmX1 3 (by decide) zq1_56 rfl (tyX1_ok _ (by decide)) rfl rfl (Nat.le_of_ble_eq_true rfl) peX1_3 dX1_acceptsPosition_44 ?_
          refine gz_goto K 66 dX1_acceptsPosition_47 (by decide) ?_
          refine gz_sub [0, 1] rfl ?_
          exact bb_66 (sz_i (sz_i σ 3 1 ((gz_i σ 3 1) ||| ((1 : Int32) <<< (x1 &&& 31)))) 3 3 x1) x1  hp
      · have hp := hp.2 h
        refine gz_iconst K (v := (0 : Int32)) dX1_acceptsPosition_21 (by decide) ?_
        exact gz_zret K hr (by decide) hp dX1_acceptsPosition_22 (Nat.le_of_ble_eq_true rfl) (Nat.le_of_ble_eq_true rfl)
set_option maxRecDepth 100000 in
set_option maxHeartbeats 4000000 in
theorem c_X1_accepts {l : Launch} {D : va_G} {ad : Nat → Nat} {ty : Nat → ClassId} (hl : l.stackTraces = false) (hj : ∀ i j, i < 68 → j < 68 → ad i = ad j → i = j) {σ : Dz} {x1 : Int32} {x2 : Int32} {post : Int32 → Dz → Prop} (hp : P_X1_accepts σ x1 x2 post) : Mz l D ad ty yX1_accepts cX1_accepts 3 (some .boolean) r_X1_accepts nI0 σ [.ref (ad 3), .int x1, .int x2] post (fun _ _ => False) := by
  refine mz_of (by decide) hl hj (Nat.le_of_ble_eq_true rfl) ?_
  intro p e s m args below meth c K hex hr
  unfold P_X1_accepts at hp
  show Gz p l e r_X1_accepts s m args below meth c D ad ty 3 0 0 (Ez below D ad ty nI0 post (fun _ _ => False) args s 0 0) σ 0 [(0, .ref (ad 3)), (1, .int x1), (2, .int x2)] []
  refine gz_aload_n K dX1_accepts_0 0 rfl ?_
  refine gz_get K (v := .int (gz_i σ 3 5)) (by decide) (ce_3 _ _ _ _ _ _) rfl inz_X1 5 (by decide) zq1_58 rfl dX1_accepts_1 ?_
  refine gz_if_ne K 29 dX1_accepts_4 (by decide) (fun h => ?_) (fun h => ?_)
  · have hp := hp.1 h
    refine gz_iload_n K dX1_accepts_29 1 rfl ?_
    refine gz_bipush K (v := (41 : Int32)) dX1_accepts_30 (by decide) ?_
    refine gz_icmp_ne K 73 dX1_accepts_32 (by decide) (fun h => ?_) (fun h => ?_)
    · have hp := hp.1 h
      refine gz_aload_n K dX1_accepts_73 0 rfl ?_
      refine gz_iload_n K dX1_accepts_74 1 rfl ?_
      refine gz_bipush K (v := (49 : Int32)) dX1_accepts_75 (by decide) ?_
      refine gz_isub K dX1_accepts_77 ?_
      refine gz_iload_n K dX1_accepts_78 2 rfl ?_
      refine gz_callV K hex (c_X1_acceptsPosition K.2.2.2.2.2 K.2.2.1 hp) cf_X1_acceptsPosition zq3_59 (by decide) (ce_3 _ _ _ _ _ _) rfl dX1_accepts_79 rfl rfl (Nat.le_of_ble_eq_true rfl) ⟨Nat.le_of_ble_eq_true rfl, Nat.le_of_ble_eq_true rfl⟩ ⟨Nat.le_of_ble_eq_true rfl, Nat.le_of_ble_eq_true rfl⟩ (Nat.le_of_ble_eq_true rfl) (Nat.le_of_ble_eq_true rfl) (fun _ _ h => h.elim) (fun r79 τ79 hp => ?_)
      refine gz_norm (st' := [.int r79]) (cells' := 0) (slots' := 0) rfl rfl rfl ?_
      exact gz_zret K hr (nB hp.1) hp.2 dX1_accepts_82 (Nat.le_of_ble_eq_true rfl) (Nat.le_of_ble_eq_true rfl)
    · have hp := hp.2 h
      refine gz_aload_n K dX1_accepts_35 0 rfl ?_
      refine gz_iconst K (v := (0 : Int32)) dX1_accepts_36 (by decide) ?_
      refine gz_put K (x := (0 : Int32)) (by decide) (ce_3 _ _ _ _ _ _) rfl inz_X1 tyX1 tyX1_ok nmX1 5 (by decide) zq1_58 rfl (tyX1_ok _ (by decide)) rfl rfl (Nat.le_of_ble_eq_true rfl) peX1_5 dX1_accepts_37 ?_
      refine gz_aload_n K dX1_accepts_40 0 rfl ?_
      refine gz_aload_n K dX1_accepts_41 0 rfl ?_
      refine gz_get K (v := .int (gz_i (sz_i σ 3 5 (0 : Int32)) 3 0)) (by decide) (ce_3 _ _ _ _ _ _) rfl inz_X1 0 (by decide) zq1_53 rfl dX1_accepts_42 ?_
      refine gz_aload_n K dX1_accepts_45 0 rfl ?_
      refine gz_get K (v := .int (gz_i (sz_i σ 3 5 (0 : Int32)) 3 4)) (by decide) (ce_3 _ _ _ _ _ _) rfl inz_X1 4 (by decide) zq1_57 rfl dX1_accepts_46 ?_
      refine gz_aload_n K dX1_accepts_49 0 rfl ?_
      refine gz_get K (v := .int (gz_i (sz_i σ 3 5 (0 : Int32)) 3 3)) (by decide) (ce_3 _ _ _ _ _ _) rfl inz_X1 3 (by decide) zq1_56 rfl dX1_accepts_50 ?_
      refine gz_callS K hex (c_X3_withImage K.2.2.2.2.2 K.2.2.1 hp) cf_X3_withImage zq3_56 dX1_accepts_53 rfl rfl (Nat.le_of_ble_eq_true rfl) ⟨Nat.le_of_ble_eq_true rfl, Nat.le_of_ble_eq_true rfl⟩ ⟨Nat.le_of_ble_eq_true rfl, Nat.le_of_ble_eq_true rfl⟩ (Nat.le_of_ble_eq_true rfl) (Nat.le_of_ble_eq_true rfl) (fun _ _ h => h.elim) (fun r53 τ hp => ?_)
      obtain ⟨rfl, hp⟩ := hp
      refine gz_norm (st' := [.int r53, .ref (ad 3)]) (cells' := 0) (slots' := 0) rfl rfl rfl ?_
      refine gz_put K (x := r53) (by decide) (ce_3 _ _ _ _ _ _) rfl inz_X1 tyX1 tyX1_ok nmX1 0 (by decide) zq1_53 rfl (tyX1_ok _ (by decide)) rfl rfl (Nat.le_of_ble_eq_true rfl) peX1_0 dX1_accepts_56 ?_
      refine gz_aload_n K dX1_accepts_59 0 rfl ?_
      refine gz_get K (v := .int (gz_i (sz_i (sz_i σ 3 5 (0 : Int32)) 3 0 r53) 3 2)) (by decide) (ce_3 _ _ _ _ _ _) rfl inz_X1 2 (by decide) zq1_55 rfl dX1_accepts_60 ?_
      refine gz_iconst K (v := (2 : Int32)) dX1_accepts_63 (by decide) ?_
      refine gz_icmp_lt K 71 dX1_accepts_64 (by decide) (fun h => ?_) (fun h => ?_)
      · have hp := hp.1 h
        refine gz_iconst K (v := (0 : Int32)) dX1_accepts_71 (by decide) ?_
        exact gz_zret K hr (by decide) hp dX1_accepts_72 (Nat.le_of_ble_eq_true rfl) (Nat.le_of_ble_eq_true rfl)
      · have hp := hp.2 h
        refine gz_iconst K (v := (1 : Int32)) dX1_accepts_67 (by decide) ?_
        refine gz_goto K 72 dX1_accepts_68 (by decide) ?_
        exact gz_zret K hr (by decide) hp dX1_accepts_72 (Nat.le_of_ble_eq_true rfl) (Nat.le_of_ble_eq_true rfl)
  · have hp := hp.2 h
    refine gz_aload_n K dX1_accepts_7 0 rfl ?_
    refine gz_iconst K (v := (1 : Int32)) dX1_accepts_8 (by decide) ?_
    refine gz_put K (x := (1 : Int32)) (by decide) (ce_3 _ _ _ _ _ _) rfl inz_X1 tyX1 tyX1_ok nmX1 5 (by decide) zq1_58 rfl (tyX1_ok _ (by decide)) rfl rfl (Nat.le_of_ble_eq_true rfl) peX1_5 dX1_accepts_9 ?_
    refine gz_aload_n K dX1_accepts_12 0 rfl ?_
    refine gz_iconst K (v := (0 : Int32)) dX1_accepts_13 (by decide) ?_
    refine gz_put K (x := (0 : Int32)) (by decide) (ce_3 _ _ _ _ _ _) rfl inz_X1 tyX1 tyX1_ok nmX1 2 (by decide) zq1_55 rfl (tyX1_ok _ (by decide)) rfl rfl (Nat.le_of_ble_eq_true rfl) peX1_2 dX1_accepts_14 ?_
    refine gz_iload_n K dX1_accepts_17 1 rfl ?_
    refine gz_bipush K (v := (40 : Int32)) dX1_accepts_18 (by decide) ?_
    refine gz_icmp_ne K 27 dX1_accepts_20 (by decide) (fun h => ?_) (fun h => ?_)
    · have hp := hp.1 h
      refine gz_iconst K (v := (0 : Int32)) dX1_accepts_27 (by decide) ?_
      exact gz_zret K hr (by decide) hp dX1_accepts_28 (Nat.le_of_ble_eq_true rfl) (Nat.le_of_ble_eq_true rfl)
    · have hp := hp.2 h
      refine gz_iconst K (v := (1 : Int32)) dX1_accepts_23 (by decide) ?_
      refine gz_goto K 28 dX1_accepts_24 (by decide) ?_
      exact gz_zret K hr (by decide) hp dX1_accepts_28 (Nat.le_of_ble_eq_true rfl) (Nat.le_of_ble_eq_true rfl)
set_option maxRecDepth 100000 in
set_option maxHeartbeats 4000000 in
theorem c_X1_errorIn {l : Launch} {D : va_G} {ad : Nat → Nat} {ty : Nat → ClassId} (hl : l.stackTraces = false) (hj : ∀ i j, i < 68 → j < 68 → ad i = ad j → i = j) {σ : Dz} {x2 : Int32} {post : Int32 → Dz → Prop} (hp : P_X1_errorIn σ x2 post) : Mz l D ad ty yX1_errorIn cX1_errorIn 4 (some .int) r_X1_errorIn nI0 σ [.ref (ad 3), .ref (ad 1), .int x2] post (fun _ _ => False) := by
  refine mz_of (by decide) hl hj (Nat.le_of_ble_eq_true rfl) ?_
  intro p e s m args below meth c K hex hr
  unfold P_X1_errorIn at hp
  show Gz p l e r_X1_errorIn s m args below meth c D ad ty 4 0 0 (Ez below D ad ty nI0 post (fun _ _ => False) args s 0 0) σ 0 [(0, .ref (ad 3)), (1, .ref (ad 1)), (2, .int x2)] []
  refine gz_aload_n K dX1_errorIn_0 0 rfl ?_
  refine gz_ldc K zq1_52 dX1_errorIn_1 ?_
  refine gz_put K (x := (1754760 : Int32)) (by decide) (ce_3 _ _ _ _ _ _) rfl inz_X1 tyX1 tyX1_ok nmX1 0 (by decide) zq1_53 rfl (tyX1_ok _ (by decide)) rfl rfl (Nat.le_of_ble_eq_true rfl) peX1_0 dX1_errorIn_3 ?_
  refine gz_aload_n K dX1_errorIn_6 0 rfl ?_
  refine gz_iconst K (v := (0 : Int32)) dX1_errorIn_7 (by decide) ?_
  refine gz_put K (x := (0 : Int32)) (by decide) (ce_3 _ _ _ _ _ _) rfl inz_X1 tyX1 tyX1_ok nmX1 1 (by decide) zq1_54 rfl (tyX1_ok _ (by decide)) rfl rfl (Nat.le_of_ble_eq_true rfl) peX1_1 dX1_errorIn_8 ?_
  refine gz_aload_n K dX1_errorIn_11 0 rfl ?_
  refine gz_iconst K (v := (0 : Int32)) dX1_errorIn_12 (by decide) ?_
  refine gz_put K (x := (0 : Int32)) (by decide) (ce_3 _ _ _ _ _ _) rfl inz_X1 tyX1 tyX1_ok nmX1 5 (by decide) zq1_58 rfl (tyX1_ok _ (by decide)) rfl rfl (Nat.le_of_ble_eq_true rfl) peX1_5 dX1_errorIn_13 ?_
  refine gz_iconst K (v := (0 : Int32)) dX1_errorIn_16 (by decide) ?_
  refine gz_istore_n K [(3, .int (0 : Int32)), (0, .ref (ad 3)), (1, .ref (ad 1)), (2, .int x2)] dX1_errorIn_17 (by decide) rfl ?_
  refine gz_sub [1, 2, 3, 0] rfl ?_
  have ll_18 : ∀ (n_18 : Nat) (σ : Dz) (y2 : Int32) (y3 : Int32) , L_X1_errorIn_18 post  n_18 σ y2 y3 → Gz p l e r_X1_errorIn s m args below meth c D ad ty 4 0 0 (Ez below D ad ty nI0 post (fun _ _ => False) args s 0 0) σ 18 [(0, .ref (ad 3)), (1, .ref (ad 1)), (2, .int y2), (3, .int y3)] [] := by
    intro n_18; induction n_18 with
    | zero => intro σ y2 y3 hp; exact False.elim hp
    | succ n_18 ih_18 =>
      intro σ y2 y3 hp
      have hp : B_X1_errorIn_18 post  (L_X1_errorIn_18 post  n_18) σ y2 y3 := hp
      unfold B_X1_errorIn_18 at hp
      refine gz_iload_n K dX1_errorIn_18 3 rfl ?_
      refine gz_aload_n K dX1_errorIn_19 1 rfl ?_
      refine gz_callV K hex (c_X5_length K.2.2.2.2.2 K.2.2.1 hp) cf_X5_length zq3_47 (by decide) (ce_1 _ _ _ _ _ _) rfl dX1_errorIn_20 rfl rfl (Nat.le_of_ble_eq_true rfl) ⟨Nat.le_of_ble_eq_true rfl, Nat.le_of_ble_eq_true rfl⟩ ⟨Nat.le_of_ble_eq_true rfl, Nat.le_of_ble_eq_true rfl⟩ (Nat.le_of_ble_eq_true rfl) (Nat.le_of_ble_eq_true rfl) (fun _ _ h => h.elim) (fun r20 τ hp => ?_)
      obtain ⟨rfl, hp⟩ := hp
      refine gz_norm (st' := [.int r20, .int y3]) (cells' := 0) (slots' := 0) rfl rfl rfl ?_
      refine gz_icmp_ge K 47 dX1_errorIn_23 (by decide) (fun h => ?_) (fun h => ?_)
      · have hp := hp.1 h
        refine gz_aload_n K dX1_errorIn_47 0 rfl ?_
        refine gz_get K (v := .int (gz_i σ 3 5)) (by decide) (ce_3 _ _ _ _ _ _) rfl inz_X1 5 (by decide) zq1_58 rfl dX1_errorIn_48 ?_
        refine gz_if_eq K 61 dX1_errorIn_51 (by decide) (fun h => ?_) (fun h => ?_)
        · have hp := hp.1 h
          refine gz_iconst K (v := (-1 : Int32)) dX1_errorIn_61 (by decide) ?_
          exact gz_iret K hr hp dX1_errorIn_62 (Nat.le_of_ble_eq_true rfl) (Nat.le_of_ble_eq_true rfl)
        · have hp := hp.2 h
          refine gz_aload_n K dX1_errorIn_54 1 rfl ?_
          refine gz_callV K hex (c_X5_length K.2.2.2.2.2 K.2.2.1 hp) cf_X5_length zq3_47 (by decide) (ce_1 _ _ _ _ _ _) rfl dX1_errorIn_55 rfl rfl (Nat.le_of_ble_eq_true rfl) ⟨Nat.le_of_ble_eq_true rfl, Nat.le_of_ble_eq_true rfl⟩ ⟨Nat.le_of_ble_eq_true rfl, Nat.le_of_ble_eq_true rfl⟩ (Nat.le_of_ble_eq_true rfl) (Nat.le_of_ble_eq_true rfl) (fun _ _ h => h.elim) (fun r55 τ hp => ?_)
          obtain ⟨rfl, hp⟩ := hp
          refine gz_norm (st' := [.int r55]) (cells' := 0) (slots' := 0) rfl rfl rfl ?_
          refine gz_goto K 62 dX1_errorIn_58 (by decide) ?_
          exact gz_iret K hr hp dX1_errorIn_62 (Nat.le_of_ble_eq_true rfl) (Nat.le_of_ble_eq_true rfl)
      · have hp := hp.2 h
        refine gz_aload_n K dX1_errorIn_26 0 rfl ?_
        refine gz_aload_n K dX1_errorIn_27 1 rfl ?_
        refine gz_iload_n K dX1_errorIn_28 3 rfl ?_
        refine gz_callV K hex (c_X5_at K.2.2.2.2.2 K.2.2.1 hp) cf_X5_at zq3_48 (by decide) (ce_1 _ _ _ _ _ _) rfl dX1_errorIn_29 rfl rfl (Nat.le_of_ble_eq_true rfl) ⟨Nat.le_of_ble_eq_true rfl, Nat.le_of_ble_eq_true rfl⟩ ⟨Nat.le_of_ble_eq_true rfl, Nat.le_of_ble_eq_true rfl⟩ (Nat.le_of_ble_eq_true rfl) (Nat.le_of_ble_eq_true rfl) (fun _ _ h => h.elim) (fun r29 τ hp => ?_)
        obtain ⟨rfl, hp⟩ := hp
        refine gz_norm (st' := [.int r29, .ref (ad 3)]) (cells' := 0) (slots' := 0) rfl rfl rfl ?_
        refine gz_iload_n K dX1_errorIn_32 2 rfl ?_
        refine gz_callV K hex (c_X1_accepts K.2.2.2.2.2 K.2.2.1 hp) cf_X1_accepts zq3_52 (by decide) (ce_3 _ _ _ _ _ _) rfl dX1_errorIn_33 rfl rfl (Nat.le_of_ble_eq_true rfl) ⟨Nat.le_of_ble_eq_true rfl, Nat.le_of_ble_eq_true rfl⟩ ⟨Nat.le_of_ble_eq_true rfl, Nat.le_of_ble_eq_true rfl⟩ (Nat.le_of_ble_eq_true rfl) (Nat.le_of_ble_eq_true rfl) (fun _ _ h => h.elim) (fun r33 τ33 hp => ?_)
        refine gz_norm (st' := [.int r33]) (cells' := 0) (slots' := 0) rfl rfl rfl ?_
        refine gz_if_ne K 41 dX1_errorIn_36 (by decide) (fun h => ?_) (fun h => ?_)
        · have hp := hp.1 h
          refine gz_iinc K (v := (y3 + 1)) [(3, .int (y3 + 1)), (0, .ref (ad 3)), (1, .ref (ad 1)), (2, .int y2)] dX1_errorIn_41 3 rfl (by first | rfl | decide) (by decide) rfl ?_
          refine gz_goto K 18 dX1_errorIn_44 (by decide) ?_
          refine gz_sub [1, 2, 3, 0] rfl ?_
          exact ih_18 τ33 y2 (y3 + 1)  hp
        · have hp := hp.2 h
          refine gz_iload_n K dX1_errorIn_39 3 rfl ?_
          exact gz_iret K hr hp dX1_errorIn_40 (Nat.le_of_ble_eq_true rfl) (Nat.le_of_ble_eq_true rfl)
  obtain ⟨n, hp⟩ := hp
  exact ll_18 n (sz_i (sz_i (sz_i σ 3 0 (1754760 : Int32)) 3 1 (0 : Int32)) 3 5 (0 : Int32)) x2 (0 : Int32)  hp
set_option maxRecDepth 100000 in
set_option maxHeartbeats 4000000 in
theorem c_X1_effect {l : Launch} {D : va_G} {ad : Nat → Nat} {ty : Nat → ClassId} (hl : l.stackTraces = false) (hj : ∀ i j, i < 68 → j < 68 → ad i = ad j → i = j) {σ : Dz} {post : Int32 → Prop} (hp : P_X1_effect σ post) : Mz l D ad ty yX1_effect cX1_effect 1 (some .int) r_X1_effect nI0 σ [.ref (ad 3)] (fun r τ => σ = τ ∧ post r) (fun _ _ => False) := by
  refine mz_of (by decide) hl hj (Nat.le_of_ble_eq_true rfl) ?_
  intro p e s m args below meth c K hex hr
  unfold P_X1_effect at hp
  show Gz p l e r_X1_effect s m args below meth c D ad ty 1 0 0 (Ez below D ad ty nI0 (fun r τ => σ = τ ∧ post r) (fun _ _ => False) args s 0 0) σ 0 [(0, .ref (ad 3))] []
  refine gz_aload_n K dX1_effect_0 0 rfl ?_
  refine gz_get K (v := .int (gz_i σ 3 0)) (by decide) (ce_3 _ _ _ _ _ _) rfl inz_X1 0 (by decide) zq1_53 rfl dX1_effect_1 ?_
  exact gz_iret K hr ⟨rfl, hp⟩ dX1_effect_4 (Nat.le_of_ble_eq_true rfl) (Nat.le_of_ble_eq_true rfl)
set_option maxRecDepth 100000 in
set_option maxHeartbeats 4000000 in
theorem c_X2_isListed {l : Launch} {D : va_G} {ad : Nat → Nat} {ty : Nat → ClassId} (hl : l.stackTraces = false) (hj : ∀ i j, i < 68 → j < 68 → ad i = ad j → i = j) {σ : Dz} {x1 : Int32} {post : Int32 → Prop} (hp : P_X2_isListed σ x1 post) : Mz l D ad ty yX2_isListed cX2_isListed 3 (some .boolean) r_X2_isListed nI0 σ [.ref (ad 12), .int x1] (fun r τ => σ = τ ∧ post r) (fun _ _ => False) := by
  refine mz_of (by decide) hl hj (Nat.le_of_ble_eq_true rfl) ?_
  intro p e s m args below meth c K hex hr
  unfold P_X2_isListed at hp
  show Gz p l e r_X2_isListed s m args below meth c D ad ty 3 0 0 (Ez below D ad ty nI0 (fun r τ => σ = τ ∧ post r) (fun _ _ => False) args s 0 0) σ 0 [(0, .ref (ad 12)), (1, .int x1)] []
  refine gz_iconst K (v := (0 : Int32)) dX2_isListed_0 (by decide) ?_
  refine gz_istore_n K [(2, .int (0 : Int32)), (0, .ref (ad 12)), (1, .int x1)] dX2_isListed_1 (by decide) rfl ?_
  refine gz_sub [1, 2, 0] rfl ?_
  have ll_2 : ∀ (n_2 : Nat) (y1 : Int32) (y2 : Int32) , L_X2_isListed_2 σ post  n_2 y1 y2 → Gz p l e r_X2_isListed s m args below meth c D ad ty 3 0 0 (Ez below D ad ty nI0 (fun r τ => σ = τ ∧ post r) (fun _ _ => False) args s 0 0) σ 2 [(0, .ref (ad 12)), (1, .int y1), (2, .int y2)] [] := by
    intro n_2; induction n_2 with
    | zero => intro y1 y2 hp; exact False.elim hp
    | succ n_2 ih_2 =>
      intro y1 y2 hp
      have hp : B_X2_isListed_2 σ post  (L_X2_isListed_2 σ post  n_2) y1 y2 := hp
      unfold B_X2_isListed_2 at hp
      refine gz_iload_n K dX2_isListed_2 2 rfl ?_
      refine gz_aload_n K dX2_isListed_3 0 rfl ?_
      refine gz_get K (v := .int (gz_i σ 12 4)) (by decide) (ce_12 _ _ _ _ _ _) rfl inz_X2 4 (by decide) zq1_140 rfl dX2_isListed_4 ?_
      refine gz_icmp_ge K 28 dX2_isListed_7 (by decide) (fun h => ?_) (fun h => ?_)
      · have hp := hp.1 h
        refine gz_iconst K (v := (0 : Int32)) dX2_isListed_28 (by decide) ?_
        exact gz_zret K hr (by decide) ⟨rfl, hp⟩ dX2_isListed_29 (Nat.le_of_ble_eq_true rfl) (Nat.le_of_ble_eq_true rfl)
      · have hp := hp.2 h
        refine gz_aload_n K dX2_isListed_10 0 rfl ?_
        refine gz_get K (v := .ref (ad 16)) (by decide) (ce_12 _ _ _ _ _ _) rfl inz_X2 3 (by decide) zq1_139 rfl dX2_isListed_11 ?_
        refine gz_iload_n K dX2_isListed_14 2 rfl ?_
        obtain ⟨h, hp⟩ := hp
        refine gz_iald K (by decide) (ce_16 _ _ _ _ _ _) h dX2_isListed_15 ?_
        refine gz_iload_n K dX2_isListed_16 1 rfl ?_
        refine gz_icmp_ne K 22 dX2_isListed_17 (by decide) (fun h => ?_) (fun h => ?_)
        · have hp := hp.1 h
          refine gz_iinc K (v := (y2 + 1)) [(2, .int (y2 + 1)), (0, .ref (ad 12)), (1, .int y1)] dX2_isListed_22 2 rfl (by first | rfl | decide) (by decide) rfl ?_
          refine gz_goto K 2 dX2_isListed_25 (by decide) ?_
          refine gz_sub [1, 2, 0] rfl ?_
          exact ih_2 y1 (y2 + 1)  hp
        · have hp := hp.2 h
          refine gz_iconst K (v := (1 : Int32)) dX2_isListed_20 (by decide) ?_
          exact gz_zret K hr (by decide) ⟨rfl, hp⟩ dX2_isListed_21 (Nat.le_of_ble_eq_true rfl) (Nat.le_of_ble_eq_true rfl)
  obtain ⟨n, hp⟩ := hp
  exact ll_2 n x1 (0 : Int32)  hp
set_option maxRecDepth 100000 in
set_option maxHeartbeats 4000000 in
theorem c_X2_listTurns {l : Launch} {D : va_G} {ad : Nat → Nat} {ty : Nat → ClassId} (hl : l.stackTraces = false) (hj : ∀ i j, i < 68 → j < 68 → ad i = ad j → i = j) {σ : Dz} {k1 : Nat} (h1 : isS k1) {post : Dz → Prop} (hp : P_X2_listTurns σ k1 post) : Mz l D ad ty yX2_listTurns cX2_listTurns 4 none r_X2_listTurns nV0 σ [.ref (ad 12), .ref (ad k1)] (fun _ τ => post τ) (fun _ _ => False) := by
  refine mz_of (by decide) hl hj (Nat.le_of_ble_eq_true rfl) ?_
  intro p e s m args below meth c K hex hr
  unfold P_X2_listTurns at hp
  show Gz p l e r_X2_listTurns s m args below meth c D ad ty 4 0 0 (Ez below D ad ty nV0 (fun _ τ => post τ) (fun _ _ => False) args s 0 0) σ 0 [(0, .ref (ad 12)), (1, .ref (ad k1))] []
  refine gz_aload_n K dX2_listTurns_0 0 rfl ?_
  refine gz_iconst K (v := (0 : Int32)) dX2_listTurns_1 (by decide) ?_
  refine gz_put K (x := (0 : Int32)) (by decide) (ce_12 _ _ _ _ _ _) rfl inz_X2 tyX2 tyX2_ok nmX2 4 (by decide) zq1_140 rfl (tyX2_ok _ (by decide)) rfl rfl (Nat.le_of_ble_eq_true rfl) peX2_4 dX2_listTurns_2 ?_
  refine gz_iconst K (v := (0 : Int32)) dX2_listTurns_5 (by decide) ?_
  refine gz_istore_n K [(2, .int (0 : Int32)), (0, .ref (ad 12)), (1, .ref (ad k1))] dX2_listTurns_6 (by decide) rfl ?_
  refine gz_sub [1, 2, 0] rfl ?_
  have ll_7 : ∀ (n_7 : Nat) (σ : Dz) (y2 : Int32) , L_X2_listTurns_7 k1 post  n_7 σ y2 → Gz p l e r_X2_listTurns s m args below meth c D ad ty 4 0 0 (Ez below D ad ty nV0 (fun _ τ => post τ) (fun _ _ => False) args s 0 0) σ 7 [(0, .ref (ad 12)), (1, .ref (ad k1)), (2, .int y2)] [] := by
    intro n_7; induction n_7 with
    | zero => intro σ y2 hp; exact False.elim hp
    | succ n_7 ih_7 =>
      intro σ y2 hp
      have hp : B_X2_listTurns_7 k1 post  (L_X2_listTurns_7 k1 post  n_7) σ y2 := hp
      unfold B_X2_listTurns_7 at hp
      have bb_53 : ∀ (σ : Dz) (y2 : Int32) , B_X2_listTurns_53 k1 post (L_X2_listTurns_7 k1 post  n_7) σ y2 → Gz p l e r_X2_listTurns s m args below meth c D ad ty 4 0 0 (Ez below D ad ty nV0 (fun _ τ => post τ) (fun _ _ => False) args s 0 0) σ 53 [(0, .ref (ad 12)), (1, .ref (ad k1)), (2, .int y2)] [] := by
        intro σ y2 hp
        unfold B_X2_listTurns_53 at hp
        refine gz_iinc K (v := (y2 + 1)) [(2, .int (y2 + 1)), (0, .ref (ad 12)), (1, .ref (ad k1))] dX2_listTurns_53 2 rfl (by first | rfl | decide) (by decide) rfl ?_
        refine gz_goto K 7 dX2_listTurns_56 (by decide) ?_
        refine gz_sub [1, 2, 0] rfl ?_
        exact ih_7 σ (y2 + 1)  hp
      refine gz_iload_n K dX2_listTurns_7 2 rfl ?_
      refine gz_bipush K (v := (10 : Int32)) dX2_listTurns_8 (by decide) ?_
      refine gz_icmp_ge K 59 dX2_listTurns_10 (by decide) (fun h => ?_) (fun h => ?_)
      · have hp := hp.1 h
        exact gz_vret K hr hp dX2_listTurns_59 (Nat.le_of_ble_eq_true rfl) (Nat.le_of_ble_eq_true rfl)
      · have hp := hp.2 h
        refine gz_aload_n K dX2_listTurns_13 1 rfl ?_
        refine gz_iload_n K dX2_listTurns_14 2 rfl ?_
        refine gz_callV K hex (c_X4_effectOfLetter K.2.2.2.2.2 K.2.2.1 h1 hp) cf_X4_effectOfLetter zq2_30 (ceS h1).1 ((ceS h1).2 _ _ _ _ _ _) rfl dX2_listTurns_15 rfl rfl (Nat.le_of_ble_eq_true rfl) ⟨Nat.le_of_ble_eq_true rfl, Nat.le_of_ble_eq_true rfl⟩ ⟨Nat.le_of_ble_eq_true rfl, Nat.le_of_ble_eq_true rfl⟩ (Nat.le_of_ble_eq_true rfl) (Nat.le_of_ble_eq_true rfl) (fun _ _ h => h.elim) (fun r15 τ hp => ?_)
        obtain ⟨rfl, hp⟩ := hp
        refine gz_norm (st' := [.int r15]) (cells' := 0) (slots' := 0) rfl rfl rfl ?_
        refine gz_istore_n K [(3, .int r15), (0, .ref (ad 12)), (1, .ref (ad k1)), (2, .int y2)] dX2_listTurns_18 (by decide) rfl ?_
        refine gz_iload_n K dX2_listTurns_19 0 rfl ?_
        refine gz_ldc K zq2_34 dX2_listTurns_20 ?_
        refine gz_icmp_eq K 53 dX2_listTurns_22 (by decide) (fun h => ?_) (fun h => ?_)
        · have hp := hp.1 h
          refine gz_sub [1, 2, 3] rfl ?_
          exact bb_53 σ y2  hp
        · have hp := hp.2 h
          refine gz_aload_n K dX2_listTurns_25 1 rfl ?_
          refine gz_iload_n K dX2_listTurns_26 0 rfl ?_
          refine gz_callV K hex (c_X2_isListed K.2.2.2.2.2 K.2.2.1 hp) cf_X2_isListed zq2_35 (by decide) (ce_12 _ _ _ _ _ _) rfl dX2_listTurns_27 rfl rfl (Nat.le_of_ble_eq_true rfl) ⟨Nat.le_of_ble_eq_true rfl, Nat.le_of_ble_eq_true rfl⟩ ⟨Nat.le_of_ble_eq_true rfl, Nat.le_of_ble_eq_true rfl⟩ (Nat.le_of_ble_eq_true rfl) (Nat.le_of_ble_eq_true rfl) (fun _ _ h => h.elim) (fun r27 τ hp => ?_)
          obtain ⟨rfl, hp⟩ := hp
          refine gz_norm (st' := [.int r27]) (cells' := 0) (slots' := 0) rfl rfl rfl ?_
          refine gz_if_ne K 53 dX2_listTurns_30 (by decide) (fun h => ?_) (fun h => ?_)
          · have hp := hp.1 h
            refine gz_sub [1, 2, 3] rfl ?_
            exact bb_53 σ y2  hp
          · have hp := hp.2 h
            refine gz_aload_n K dX2_listTurns_33 1 rfl ?_
            refine gz_get K (v := .ref (ad 16)) (by decide) (ce_12 _ _ _ _ _ _) rfl inz_X2 3 (by decide) zq1_139 rfl dX2_listTurns_34 ?_
            refine gz_aload_n K dX2_listTurns_37 1 rfl ?_
            refine gz_get K (v := .int (gz_i σ 12 4)) (by decide) (ce_12 _ _ _ _ _ _) rfl inz_X2 4 (by decide) zq1_140 rfl dX2_listTurns_38 ?_
            refine gz_iload_n K dX2_listTurns_41 0 rfl ?_
            obtain ⟨h, hp⟩ := hp
            refine gz_iast K (x := r15) (by decide) (ce_16 ad ty) h dX2_listTurns_42 ?_
            refine gz_aload_n K dX2_listTurns_43 1 rfl ?_
            refine gz_dup K dX2_listTurns_44 rfl ?_
            refine gz_get K (v := .int (gz_i (sz_i σ 16 ((gz_i σ 12 4)).toNatClampNeg r15) 12 4)) (by decide) (ce_12 _ _ _ _ _ _) rfl inz_X2 4 (by decide) zq1_140 rfl dX2_listTurns_45 ?_
            refine gz_iconst K (v := (1 : Int32)) dX2_listTurns_48 (by decide) ?_
            refine gz_iadd K dX2_listTurns_49 ?_
            refine gz_put K (x := ((gz_i (sz_i σ 16 ((gz_i σ 12 4)).toNatClampNeg r15) 12 4) + (1 : Int32))) (by decide) (ce_12 _ _ _ _ _ _) rfl inz_X2 tyX2 tyX2_ok nmX2 4 (by decide) zq1_140 rfl (tyX2_ok _ (by decide)) rfl rfl (Nat.le_of_ble_eq_true rfl) peX2_4 dX2_listTurns_50 ?_
            refine gz_sub [1, 2, 3] rfl ?_
            exact bb_53 (sz_i (sz_i σ 16 ((gz_i σ 12 4)).toNatClampNeg r15) 12 4 ((gz_i (sz_i σ 16 ((gz_i σ 12 4)).toNatClampNeg r15) 12 4) + (1 : Int32))) y2  hp
  obtain ⟨n, hp⟩ := hp
  exact ll_7 n (sz_i σ 12 4 (0 : Int32)) (0 : Int32)  hp
set_option maxRecDepth 100000 in
set_option maxHeartbeats 4000000 in
theorem c_X2_clear {l : Launch} {D : va_G} {ad : Nat → Nat} {ty : Nat → ClassId} (hl : l.stackTraces = false) (hj : ∀ i j, i < 68 → j < 68 → ad i = ad j → i = j) {σ : Dz} {x1 : Int32} {post : Int32 → Dz → Prop} (hp : P_X2_clear σ x1 post) : Mz l D ad ty yX2_clear cX2_clear 4 (some .int) r_X2_clear nI0 σ [.ref (ad 12), .int x1] post (fun _ _ => False) := by
  refine mz_of (by decide) hl hj (Nat.le_of_ble_eq_true rfl) ?_
  intro p e s m args below meth c K hex hr
  unfold P_X2_clear at hp
  have bb_25 : ∀ (σ : Dz) (y2 : Int32) , B_X2_clear_25 post  σ y2 → Gz p l e r_X2_clear s m args below meth c D ad ty 4 0 0 (Ez below D ad ty nI0 post (fun _ _ => False) args s 0 0) σ 25 [(0, .ref (ad 12)), (2, .int y2)] [] := by
    intro σ y2 hp
    unfold B_X2_clear_25 at hp
    refine gz_iconst K (v := (0 : Int32)) dX2_clear_25 (by decide) ?_
    refine gz_istore_n K [(3, .int (0 : Int32)), (0, .ref (ad 12)), (2, .int y2)] dX2_clear_26 (by decide) rfl ?_
    refine gz_sub [1, 2, 0] rfl ?_
    have ll_27 : ∀ (n_27 : Nat) (σ : Dz) (y2 : Int32) (y3 : Int32) , L_X2_clear_27 post  n_27 σ y2 y3 → Gz p l e r_X2_clear s m args below meth c D ad ty 4 0 0 (Ez below D ad ty nI0 post (fun _ _ => False) args s 0 0) σ 27 [(0, .ref (ad 12)), (2, .int y2), (3, .int y3)] [] := by
      intro n_27; induction n_27 with
      | zero => intro σ y2 y3 hp; exact False.elim hp
      | succ n_27 ih_27 =>
        intro σ y2 y3 hp
        have hp : B_X2_clear_27 post  (L_X2_clear_27 post  n_27) σ y2 y3 := hp
        unfold B_X2_clear_27 at hp
        refine gz_iload_n K dX2_clear_27 2 rfl ?_
        refine gz_iload_n K dX2_clear_28 1 rfl ?_
        refine gz_icmp_ge K 54 dX2_clear_29 (by decide) (fun h => ?_) (fun h => ?_)
        · have hp := hp.1 h
          refine gz_aload_n K dX2_clear_54 0 rfl ?_
          refine gz_iconst K (v := (0 : Int32)) dX2_clear_55 (by decide) ?_
          refine gz_put K (x := (0 : Int32)) (by decide) (ce_12 _ _ _ _ _ _) rfl inz_X2 tyX2 tyX2_ok nmX2 5 (by decide) zq1_141 rfl (tyX2_ok _ (by decide)) rfl rfl (Nat.le_of_ble_eq_true rfl) peX2_5 dX2_clear_56 ?_
          refine gz_iload_n K dX2_clear_59 1 rfl ?_
          exact gz_iret K hr hp dX2_clear_60 (Nat.le_of_ble_eq_true rfl) (Nat.le_of_ble_eq_true rfl)
        · have hp := hp.2 h
          refine gz_iload_n K dX2_clear_32 2 rfl ?_
          refine gz_aload_n K dX2_clear_33 0 rfl ?_
          refine gz_get K (v := .ref (ad 13)) (by decide) (ce_12 _ _ _ _ _ _) rfl inz_X2 0 (by decide) zq1_136 rfl dX2_clear_34 ?_
          refine gz_alen K (v := (5040 : Int32)) 3 rfl (by decide) (ce_13 _ _ _ _ _ _) (by decide) dX2_clear_37 ?_
          refine gz_icmp_ge K 54 dX2_clear_38 (by decide) (fun h => ?_) (fun h => ?_)
          · have hp := hp.1 h
            refine gz_aload_n K dX2_clear_54 0 rfl ?_
            refine gz_iconst K (v := (0 : Int32)) dX2_clear_55 (by decide) ?_
            refine gz_put K (x := (0 : Int32)) (by decide) (ce_12 _ _ _ _ _ _) rfl inz_X2 tyX2 tyX2_ok nmX2 5 (by decide) zq1_141 rfl (tyX2_ok _ (by decide)) rfl rfl (Nat.le_of_ble_eq_true rfl) peX2_5 dX2_clear_56 ?_
            refine gz_iload_n K dX2_clear_59 1 rfl ?_
            exact gz_iret K hr hp dX2_clear_60 (Nat.le_of_ble_eq_true rfl) (Nat.le_of_ble_eq_true rfl)
          · have hp := hp.2 h
            refine gz_aload_n K dX2_clear_41 0 rfl ?_
            refine gz_get K (v := .ref (ad 13)) (by decide) (ce_12 _ _ _ _ _ _) rfl inz_X2 0 (by decide) zq1_136 rfl dX2_clear_42 ?_
            refine gz_iload_n K dX2_clear_45 2 rfl ?_
            refine gz_iconst K (v := (-1 : Int32)) dX2_clear_46 (by decide) ?_
            obtain ⟨h, hp⟩ := hp
            refine gz_iast K (x := (-1 : Int32)) (by decide) (ce_13 ad ty) h dX2_clear_47 ?_
            refine gz_iinc K (v := (y3 + 1)) [(3, .int (y3 + 1)), (0, .ref (ad 12)), (2, .int y2)] dX2_clear_48 2 rfl (by first | rfl | decide) (by decide) rfl ?_
            refine gz_goto K 27 dX2_clear_51 (by decide) ?_
            refine gz_sub [1, 2, 0] rfl ?_
            exact ih_27 (sz_i σ 13 (y3).toNatClampNeg (-1 : Int32)) y2 (y3 + 1)  hp
    obtain ⟨n, hp⟩ := hp
    exact ll_27 n σ y2 (0 : Int32)  hp
  show Gz p l e r_X2_clear s m args below meth c D ad ty 4 0 0 (Ez below D ad ty nI0 post (fun _ _ => False) args s 0 0) σ 0 [(0, .ref (ad 12)), (1, .int x1)] []
  refine gz_iconst K (v := (1 : Int32)) dX2_clear_0 (by decide) ?_
  refine gz_istore_n K [(2, .int (1 : Int32)), (0, .ref (ad 12)), (1, .int x1)] dX2_clear_1 (by decide) rfl ?_
  refine gz_iconst K (v := (2 : Int32)) dX2_clear_2 (by decide) ?_
  refine gz_istore_n K [(3, .int (2 : Int32)), (2, .int (1 : Int32)), (0, .ref (ad 12)), (1, .int x1)] dX2_clear_3 (by decide) rfl ?_
  refine gz_sub [2, 3, 1, 0] rfl ?_
  have ll_4 : ∀ (n_4 : Nat) (σ : Dz) (y1 : Int32) (y2 : Int32) (y3 : Int32) , L_X2_clear_4 post  n_4 σ y1 y2 y3 → Gz p l e r_X2_clear s m args below meth c D ad ty 4 0 0 (Ez below D ad ty nI0 post (fun _ _ => False) args s 0 0) σ 4 [(0, .ref (ad 12)), (1, .int y1), (2, .int y2), (3, .int y3)] [] := by
    intro n_4; induction n_4 with
    | zero => intro σ y1 y2 y3 hp; exact False.elim hp
    | succ n_4 ih_4 =>
      intro σ y1 y2 y3 hp
      have hp : B_X2_clear_4 post  (L_X2_clear_4 post  n_4) σ y1 y2 y3 := hp
      unfold B_X2_clear_4 at hp
      refine gz_iload_n K dX2_clear_4 3 rfl ?_
      refine gz_iload_n K dX2_clear_5 1 rfl ?_
      refine gz_icmp_gt K 25 dX2_clear_6 (by decide) (fun h => ?_) (fun h => ?_)
      · have hp := hp.1 h
        refine gz_sub [0, 2] rfl ?_
        exact bb_25 σ y2  hp
      · have hp := hp.2 h
        refine gz_iload_n K dX2_clear_9 3 rfl ?_
        refine gz_bipush K (v := (7 : Int32)) dX2_clear_10 (by decide) ?_
        refine gz_icmp_gt K 25 dX2_clear_12 (by decide) (fun h => ?_) (fun h => ?_)
        · have hp := hp.1 h
          refine gz_sub [0, 2] rfl ?_
          exact bb_25 σ y2  hp
        · have hp := hp.2 h
          refine gz_iload_n K dX2_clear_15 2 rfl ?_
          refine gz_iload_n K dX2_clear_16 3 rfl ?_
          refine gz_imul K dX2_clear_17 ?_
          refine gz_istore_n K [(2, .int (y2 * y3)), (0, .ref (ad 12)), (1, .int y1), (3, .int y3)] dX2_clear_18 (by decide) rfl ?_
          refine gz_iinc K (v := (y3 + 1)) [(3, .int (y3 + 1)), (2, .int (y2 * y3)), (0, .ref (ad 12)), (1, .int y1)] dX2_clear_19 3 rfl (by first | rfl | decide) (by decide) rfl ?_
          refine gz_goto K 4 dX2_clear_22 (by decide) ?_
          refine gz_sub [2, 3, 1, 0] rfl ?_
          exact ih_4 σ y1 (y2 * y3) (y3 + 1)  hp
  obtain ⟨n, hp⟩ := hp
  exact ll_4 n σ x1 (1 : Int32) (2 : Int32)  hp
set_option maxRecDepth 100000 in
set_option maxHeartbeats 4000000 in
theorem c_J6_bitCount_0f7a4 {l : Launch} {D : va_G} {ad : Nat → Nat} {ty : Nat → ClassId} (hl : l.stackTraces = false) (hj : ∀ i j, i < 68 → j < 68 → ad i = ad j → i = j) {σ : Dz} {x0 : Int32} {post : Int32 → Prop} (hp : P_J6_bitCount_0f7a4 x0 post) : Mz l D ad ty yJ6_bitCount_0f7a4 cJ6_bitCount_0f7a4 1 (some .int) r_J6_bitCount_0f7a4 nI0 σ [.int x0] (fun r τ => σ = τ ∧ post r) (fun _ _ => False) := by
  refine mz_of (by decide) hl hj (Nat.le_of_ble_eq_true rfl) ?_
  intro p e s m args below meth c K hex hr
  unfold P_J6_bitCount_0f7a4 at hp
  show Gz p l e r_J6_bitCount_0f7a4 s m args below meth c D ad ty 1 0 0 (Ez below D ad ty nI0 (fun r τ => σ = τ ∧ post r) (fun _ _ => False) args s 0 0) σ 0 [(0, .int x0)] []
  refine gz_iload_n K dJ6_bitCount_0f7a4_0 0 rfl ?_
  refine gz_iload_n K dJ6_bitCount_0f7a4_1 0 rfl ?_
  refine gz_iconst K (v := (1 : Int32)) dJ6_bitCount_0f7a4_2 (by decide) ?_
  refine gz_iushr K dJ6_bitCount_0f7a4_3 ?_
  refine gz_ldc_w K zq2_56 dJ6_bitCount_0f7a4_4 ?_
  refine gz_iand K dJ6_bitCount_0f7a4_7 ?_
  refine gz_isub K dJ6_bitCount_0f7a4_8 ?_
  refine gz_istore_n K [(0, .int (x0 - (((x0).toUInt32 >>> (((1 : Int32)).toUInt32 &&& Int32.toUInt32 31)).toInt32 &&& (1431655765 : Int32))))] dJ6_bitCount_0f7a4_9 (by decide) rfl ?_
  refine gz_iload_n K dJ6_bitCount_0f7a4_10 0 rfl ?_
  refine gz_ldc_w K zq2_57 dJ6_bitCount_0f7a4_11 ?_
  refine gz_iand K dJ6_bitCount_0f7a4_14 ?_
  refine gz_iload_n K dJ6_bitCount_0f7a4_15 0 rfl ?_
  refine gz_iconst K (v := (2 : Int32)) dJ6_bitCount_0f7a4_16 (by decide) ?_
  refine gz_iushr K dJ6_bitCount_0f7a4_17 ?_
  refine gz_ldc_w K zq2_57 dJ6_bitCount_0f7a4_18 ?_
  refine gz_iand K dJ6_bitCount_0f7a4_21 ?_
  refine gz_iadd K dJ6_bitCount_0f7a4_22 ?_
  refine gz_istore_n K [(0, .int (((x0 - (((x0).toUInt32 >>> (((1 : Int32)).toUInt32 &&& Int32.toUInt32 31)).toInt32 &&& (1431655765 : Int32))) &&& (858993459 : Int32)) + ((((x0 - (((x0).toUInt32 >>> (((1 : Int32)).toUInt32 &&& Int32.toUInt32 31)).toInt32 &&& (1431655765 : Int32)))).toUInt32 >>> (((2 : Int32)).toUInt32 &&& Int32.toUInt32 31)).toInt32 &&& (858993459 : Int32))))] dJ6_bitCount_0f7a4_23 (by decide) rfl ?_
  refine gz_iload_n K dJ6_bitCount_0f7a4_24 0 rfl ?_
  refine gz_iload_n K dJ6_bitCount_0f7a4_25 0 rfl ?_
  refine gz_iconst K (v := (4 : Int32)) dJ6_bitCount_0f7a4_26 (by decide) ?_
  refine gz_iushr K dJ6_bitCount_0f7a4_27 ?_
  refine gz_iadd K dJ6_bitCount_0f7a4_28 ?_
  refine gz_ldc_w K zq2_58 dJ6_bitCount_0f7a4_29 ?_
  refine gz_iand K dJ6_bitCount_0f7a4_32 ?_
  refine gz_istore_n K [(0, .int (((((x0 - (((x0).toUInt32 >>> (((1 : Int32)).toUInt32 &&& Int32.toUInt32 31)).toInt32 &&& (1431655765 : Int32))) &&& (858993459 : Int32)) + ((((x0 - (((x0).toUInt32 >>> (((1 : Int32)).toUInt32 &&& Int32.toUInt32 31)).toInt32 &&& (1431655765 : Int32)))).toUInt32 >>> (((2 : Int32)).toUInt32 &&& Int32.toUInt32 31)).toInt32 &&& (858993459 : Int32))) + (((((x0 - (((x0).toUInt32 >>> (((1 : Int32)).toUInt32 &&& Int32.toUInt32 31)).toInt32 &&& (1431655765 : Int32))) &&& (858993459 : Int32)) + ((((x0 - (((x0).toUInt32 >>> (((1 : Int32)).toUInt32 &&& Int32.toUInt32 31)).toInt32 &&& (1431655765 : Int32)))).toUInt32 >>> (((2 : Int32)).toUInt32 &&& Int32.toUInt32 31)).toInt32 &&& (858993459 : Int32)))).toUInt32 >>> (((4 : Int32)).toUInt32 &&& Int32.toUInt32 31)).toInt32) &&& (252645135 : Int32)))] dJ6_bitCount_0f7a4_33 (by decide) rfl ?_
  refine gz_iload_n K dJ6_bitCount_0f7a4_34 0 rfl ?_
  refine gz_iload_n K dJ6_bitCount_0f7a4_35 0 rfl ?_
  refine gz_bipush K (v := (8 : Int32)) dJ6_bitCount_0f7a4_36 (by decide) ?_
  refine gz_iushr K dJ6_bitCount_0f7a4_38 ?_
  refine gz_iadd K dJ6_bitCount_0f7a4_39 ?_
  refine gz_istore_n K [(0, .int ((((((x0 - (((x0).toUInt32 >>> (((1 : Int32)).toUInt32 &&& Int32.toUInt32 31)).toInt32 &&& (1431655765 : Int32))) &&& (858993459 : Int32)) + ((((x0 - (((x0).toUInt32 >>> (((1 : Int32)).toUInt32 &&& Int32.toUInt32 31)).toInt32 &&& (1431655765 : Int32)))).toUInt32 >>> (((2 : Int32)).toUInt32 &&& Int32.toUInt32 31)).toInt32 &&& (858993459 : Int32))) + (((((x0 - (((x0).toUInt32 >>> (((1 : Int32)).toUInt32 &&& Int32.toUInt32 31)).toInt32 &&& (1431655765 : Int32))) &&& (858993459 : Int32)) + ((((x0 - (((x0).toUInt32 >>> (((1 : Int32)).toUInt32 &&& Int32.toUInt32 31)).toInt32 &&& (1431655765 : Int32)))).toUInt32 >>> (((2 : Int32)).toUInt32 &&& Int32.toUInt32 31)).toInt32 &&& (858993459 : Int32)))).toUInt32 >>> (((4 : Int32)).toUInt32 &&& Int32.toUInt32 31)).toInt32) &&& (252645135 : Int32)) + (((((((x0 - (((x0).toUInt32 >>> (((1 : Int32)).toUInt32 &&& Int32.toUInt32 31)).toInt32 &&& (1431655765 : Int32))) &&& (858993459 : Int32)) + ((((x0 - (((x0).toUInt32 >>> (((1 : Int32)).toUInt32 &&& Int32.toUInt32 31)).toInt32 &&& (1431655765 : Int32)))).toUInt32 >>> (((2 : Int32)).toUInt32 &&& Int32.toUInt32 31)).toInt32 &&& (858993459 : Int32))) + (((((x0 - (((x0).toUInt32 >>> (((1 : Int32)).toUInt32 &&& Int32.toUInt32 31)).toInt32 &&& (1431655765 : Int32))) &&& (858993459 : Int32)) + ((((x0 - (((x0).toUInt32 >>> (((1 : Int32)).toUInt32 &&& Int32.toUInt32 31)).toInt32 &&& (1431655765 : Int32)))).toUInt32 >>> (((2 : Int32)).toUInt32 &&& Int32.toUInt32 31)).toInt32 &&& (858993459 : Int32)))).toUInt32 >>> (((4 : Int32)).toUInt32 &&& Int32.toUInt32 31)).toInt32) &&& (252645135 : Int32))).toUInt32 >>> (((8 : Int32)).toUInt32 &&& Int32.toUInt32 31)).toInt32))] dJ6_bitCount_0f7a4_40 (by decide) rfl ?_
  refine gz_iload_n K dJ6_bitCount_0f7a4_41 0 rfl ?_
  refine gz_iload_n K dJ6_bitCount_0f7a4_42 0 rfl ?_
  refine gz_bipush K (v := (16 : Int32)) dJ6_bitCount_0f7a4_43 (by decide) ?_
  refine gz_iushr K dJ6_bitCount_0f7a4_45 ?_
  refine gz_iadd K dJ6_bitCount_0f7a4_46 ?_
  refine gz_istore_n K [(0, .int (((((((x0 - (((x0).toUInt32 >>> (((1 : Int32)).toUInt32 &&& Int32.toUInt32 31)).toInt32 &&& (1431655765 : Int32))) &&& (858993459 : Int32)) + ((((x0 - (((x0).toUInt32 >>> (((1 : Int32)).toUInt32 &&& Int32.toUInt32 31)).toInt32 &&& (1431655765 : Int32)))).toUInt32 >>> (((2 : Int32)).toUInt32 &&& Int32.toUInt32 31)).toInt32 &&& (858993459 : Int32))) + (((((x0 - (((x0).toUInt32 >>> (((1 : Int32)).toUInt32 &&& Int32.toUInt32 31)).toInt32 &&& (1431655765 : Int32))) &&& (858993459 : Int32)) + ((((x0 - (((x0).toUInt32 >>> (((1 : Int32)).toUInt32 &&& Int32.toUInt32 31)).toInt32 &&& (1431655765 : Int32)))).toUInt32 >>> (((2 : Int32)).toUInt32 &&& Int32.toUInt32 31)).toInt32 &&& (858993459 : Int32)))).toUInt32 >>> (((4 : Int32)).toUInt32 &&& Int32.toUInt32 31)).toInt32) &&& (252645135 : Int32)) + (((((((x0 - (((x0).toUInt32 >>> (((1 : Int32)).toUInt32 &&& Int32.toUInt32 31)).toInt32 &&& (1431655765 : Int32))) &&& (858993459 : Int32)) + ((((x0 - (((x0).toUInt32 >>> (((1 : Int32)).toUInt32 &&& Int32.toUInt32 31)).toInt32 &&& (1431655765 : Int32)))).toUInt32 >>> (((2 : Int32)).toUInt32 &&& Int32.toUInt32 31)).toInt32 &&& (858993459 : Int32))) + (((((x0 - (((x0).toUInt32 >>> (((1 : Int32)).toUInt32 &&& Int32.toUInt32 31)).toInt32 &&& (1431655765 : Int32))) &&& (858993459 : Int32)) + ((((x0 - (((x0).toUInt32 >>> (((1 : Int32)).toUInt32 &&& Int32.toUInt32 31)).toInt32 &&& (1431655765 : Int32)))).toUInt32 >>> (((2 : Int32)).toUInt32 &&& Int32.toUInt32 31)).toInt32 &&& (858993459 : Int32)))).toUInt32 >>> (((4 : Int32)).toUInt32 &&& Int32.toUInt32 31)).toInt32) &&& (252645135 : Int32))).toUInt32 >>> (((8 : Int32)).toUInt32 &&& Int32.toUInt32 31)).toInt32) + ((((((((x0 - (((x0).toUInt32 >>> (((1 : Int32)).toUInt32 &&& Int32.toUInt32 31)).toInt32 &&& (1431655765 : Int32))) &&& (858993459 : Int32)) + ((((x0 - (((x0).toUInt32 >>> (((1 : Int32)).toUInt32 &&& Int32.toUInt32 31)).toInt32 &&& (1431655765 : Int32)))).toUInt32 >>> (((2 : Int32)).toUInt32 &&& Int32.toUInt32 31)).toInt32 &&& (858993459 : Int32))) + (((((x0 - (((x0).toUInt32 >>> (((1 : Int32)).toUInt32 &&& Int32.toUInt32 31)).toInt32 &&& (1431655765 : Int32))) &&& (858993459 : Int32)) + ((((x0 - (((x0).toUInt32 >>> (((1 : Int32)).toUInt32 &&& Int32.toUInt32 31)).toInt32 &&& (1431655765 : Int32)))).toUInt32 >>> (((2 : Int32)).toUInt32 &&& Int32.toUInt32 31)).toInt32 &&& (858993459 : Int32)))).toUInt32 >>> (((4 : Int32)).toUInt32 &&& Int32.toUInt32 31)).toInt32) &&& (252645135 : Int32)) + (((((((x0 - (((x0).toUInt32 >>> (((1 : Int32)).toUInt32 &&& Int32.toUInt32 31)).toInt32 &&& (1431655765 : Int32))) &&& (858993459 : Int32)) + ((((x0 - (((x0).toUInt32 >>> (((1 : Int32)).toUInt32 &&& Int32.toUInt32 31)).toInt32 &&& (1431655765 : Int32)))).toUInt32 >>> (((2 : Int32)).toUInt32 &&& Int32.toUInt32 31)).toInt32 &&& (858993459 : Int32))) + (((((x0 - (((x0).toUInt32 >>> (((1 : Int32)).toUInt32 &&& Int32.toUInt32 31)).toInt32 &&& (1431655765 : Int32))) &&& (858993459 : Int32)) + ((((x0 - (((x0).toUInt32 >>> (((1 : Int32)).toUInt32 &&& Int32.toUInt32 31)).toInt32 &&& (1431655765 : Int32)))).toUInt32 >>> (((2 : Int32)).toUInt32 &&& Int32.toUInt32 31)).toInt32 &&& (858993459 : Int32)))).toUInt32 >>> (((4 : Int32)).toUInt32 &&& Int32.toUInt32 31)).toInt32) &&& (252645135 : Int32))).toUInt32 >>> (((8 : Int32)).toUInt32 &&& Int32.toUInt32 31)).toInt32)).toUInt32 >>> (((16 : Int32)).toUInt32 &&& Int32.toUInt32 31)).toInt32))] dJ6_bitCount_0f7a4_47 (by decide) rfl ?_
  refine gz_iload_n K dJ6_bitCount_0f7a4_48 0 rfl ?_
  refine gz_bipush K (v := (63 : Int32)) dJ6_bitCount_0f7a4_49 (by decide) ?_
  refine gz_iand K dJ6_bitCount_0f7a4_51 ?_
  exact gz_iret K hr ⟨rfl, hp⟩ dJ6_bitCount_0f7a4_52 (Nat.le_of_ble_eq_true rfl) (Nat.le_of_ble_eq_true rfl)
set_option maxRecDepth 100000 in
set_option maxHeartbeats 4000000 in
theorem c_X3_rankOf {l : Launch} {D : va_G} {ad : Nat → Nat} {ty : Nat → ClassId} (hl : l.stackTraces = false) (hj : ∀ i j, i < 68 → j < 68 → ad i = ad j → i = j) {σ : Dz} {x0 : Int32} {post : Int32 → Prop} (hp : P_X3_rankOf x0 post) : Mz l D ad ty yX3_rankOf cX3_rankOf 6 (some .int) r_X3_rankOf nI0 σ [.int x0] (fun r τ => σ = τ ∧ post r) (fun _ _ => False) := by
  refine mz_of (by decide) hl hj (Nat.le_of_ble_eq_true rfl) ?_
  intro p e s m args below meth c K hex hr
  unfold P_X3_rankOf at hp
  show Gz p l e r_X3_rankOf s m args below meth c D ad ty 6 0 0 (Ez below D ad ty nI0 (fun r τ => σ = τ ∧ post r) (fun _ _ => False) args s 0 0) σ 0 [(0, .int x0)] []
  refine gz_iconst K (v := (0 : Int32)) dX3_rankOf_0 (by decide) ?_
  refine gz_istore_n K [(1, .int (0 : Int32)), (0, .int x0)] dX3_rankOf_1 (by decide) rfl ?_
  refine gz_iconst K (v := (0 : Int32)) dX3_rankOf_2 (by decide) ?_
  refine gz_istore_n K [(2, .int (0 : Int32)), (1, .int (0 : Int32)), (0, .int x0)] dX3_rankOf_3 (by decide) rfl ?_
  refine gz_iconst K (v := (1 : Int32)) dX3_rankOf_4 (by decide) ?_
  refine gz_istore_n K [(3, .int (1 : Int32)), (2, .int (0 : Int32)), (1, .int (0 : Int32)), (0, .int x0)] dX3_rankOf_5 (by decide) rfl ?_
  refine gz_iconst K (v := (0 : Int32)) dX3_rankOf_6 (by decide) ?_
  refine gz_istore K [(4, .int (0 : Int32)), (3, .int (1 : Int32)), (2, .int (0 : Int32)), (1, .int (0 : Int32)), (0, .int x0)] dX3_rankOf_7 (by decide) rfl ?_
  refine gz_sub [4, 3, 2, 1, 0] rfl ?_
  have ll_9 : ∀ (n_9 : Nat) (y0 : Int32) (y1 : Int32) (y2 : Int32) (y3 : Int32) (y4 : Int32) , L_X3_rankOf_9 post  n_9 y0 y1 y2 y3 y4 → Gz p l e r_X3_rankOf s m args below meth c D ad ty 6 0 0 (Ez below D ad ty nI0 (fun r τ => σ = τ ∧ post r) (fun _ _ => False) args s 0 0) σ 9 [(0, .int y0), (1, .int y1), (2, .int y2), (3, .int y3), (4, .int y4)] [] := by
    intro n_9; induction n_9 with
    | zero => intro y0 y1 y2 y3 y4 hp; exact False.elim hp
    | succ n_9 ih_9 =>
      intro y0 y1 y2 y3 y4 hp
      have hp : B_X3_rankOf_9 post  (L_X3_rankOf_9 post  n_9) y0 y1 y2 y3 y4 := hp
      unfold B_X3_rankOf_9 at hp
      refine gz_iload K dX3_rankOf_9 4 rfl ?_
      refine gz_bipush K (v := (7 : Int32)) dX3_rankOf_11 (by decide) ?_
      refine gz_icmp_ge K 56 dX3_rankOf_13 (by decide) (fun h => ?_) (fun h => ?_)
      · have hp := hp.1 h
        refine gz_iload_n K dX3_rankOf_56 2 rfl ?_
        exact gz_iret K hr ⟨rfl, hp⟩ dX3_rankOf_57 (Nat.le_of_ble_eq_true rfl) (Nat.le_of_ble_eq_true rfl)
      · have hp := hp.2 h
        refine gz_iload_n K dX3_rankOf_16 0 rfl ?_
        refine gz_iload K dX3_rankOf_17 4 rfl ?_
        refine gz_callS K hex (c_X3_imageOf K.2.2.2.2.2 K.2.2.1 hp) cf_X3_imageOf zq2_50 dX3_rankOf_19 rfl rfl (Nat.le_of_ble_eq_true rfl) ⟨Nat.le_of_ble_eq_true rfl, Nat.le_of_ble_eq_true rfl⟩ ⟨Nat.le_of_ble_eq_true rfl, Nat.le_of_ble_eq_true rfl⟩ (Nat.le_of_ble_eq_true rfl) (Nat.le_of_ble_eq_true rfl) (fun _ _ h => h.elim) (fun r19 τ hp => ?_)
        obtain ⟨rfl, hp⟩ := hp
        refine gz_norm (st' := [.int r19]) (cells' := 0) (slots' := 0) rfl rfl rfl ?_
        refine gz_istore K [(5, .int r19), (0, .int y0), (1, .int y1), (2, .int y2), (3, .int y3), (4, .int y4)] dX3_rankOf_22 (by decide) rfl ?_
        refine gz_iload_n K dX3_rankOf_24 3 rfl ?_
        refine gz_iload_n K dX3_rankOf_25 4 rfl ?_
        refine gz_iload_n K dX3_rankOf_26 2 rfl ?_
        refine gz_iload K dX3_rankOf_27 0 rfl ?_
        refine gz_iushr K dX3_rankOf_29 ?_
        refine gz_callS K hex (c_J6_bitCount_0f7a4 K.2.2.2.2.2 K.2.2.1 hp) cf_J6_bitCount_0f7a4 zq2_53 dX3_rankOf_30 rfl rfl (Nat.le_of_ble_eq_true rfl) ⟨Nat.le_of_ble_eq_true rfl, Nat.le_of_ble_eq_true rfl⟩ ⟨Nat.le_of_ble_eq_true rfl, Nat.le_of_ble_eq_true rfl⟩ (Nat.le_of_ble_eq_true rfl) (Nat.le_of_ble_eq_true rfl) (fun _ _ h => h.elim) (fun r30 τ hp => ?_)
        obtain ⟨rfl, hp⟩ := hp
        refine gz_norm (st' := [.int r30, .int y3, .int y2]) (cells' := 0) (slots' := 0) rfl rfl rfl ?_
        refine gz_imul K dX3_rankOf_33 ?_
        refine gz_iadd K dX3_rankOf_34 ?_
        refine gz_istore_n K [(2, .int (y2 + (y3 * r30))), (5, .int r19), (0, .int y0), (1, .int y1), (3, .int y3), (4, .int y4)] dX3_rankOf_35 (by decide) rfl ?_
        refine gz_iload_n K dX3_rankOf_36 3 rfl ?_
        refine gz_iconst K (v := (1 : Int32)) dX3_rankOf_37 (by decide) ?_
        refine gz_iload K dX3_rankOf_38 1 rfl ?_
        refine gz_ishl K dX3_rankOf_40 ?_
        refine gz_ior K dX3_rankOf_41 ?_
        refine gz_istore_n K [(1, .int (y1 ||| ((1 : Int32) <<< (r19 &&& 31)))), (2, .int (y2 + (y3 * r30))), (5, .int r19), (0, .int y0), (3, .int y3), (4, .int y4)] dX3_rankOf_42 (by decide) rfl ?_
        refine gz_iload_n K dX3_rankOf_43 4 rfl ?_
        refine gz_iload K dX3_rankOf_44 5 rfl ?_
        refine gz_iconst K (v := (1 : Int32)) dX3_rankOf_46 (by decide) ?_
        refine gz_iadd K dX3_rankOf_47 ?_
        refine gz_imul K dX3_rankOf_48 ?_
        refine gz_istore_n K [(3, .int (y3 * (y4 + (1 : Int32)))), (1, .int (y1 ||| ((1 : Int32) <<< (r19 &&& 31)))), (2, .int (y2 + (y3 * r30))), (5, .int r19), (0, .int y0), (4, .int y4)] dX3_rankOf_49 (by decide) rfl ?_
        refine gz_iinc K (v := (y4 + 1)) [(4, .int (y4 + 1)), (3, .int (y3 * (y4 + (1 : Int32)))), (1, .int (y1 ||| ((1 : Int32) <<< (r19 &&& 31)))), (2, .int (y2 + (y3 * r30))), (5, .int r19), (0, .int y0)] dX3_rankOf_50 5 rfl (by first | rfl | decide) (by decide) rfl ?_
        refine gz_goto K 9 dX3_rankOf_53 (by decide) ?_
        refine gz_sub [5, 2, 3, 1, 0] rfl ?_
        exact ih_9 y0 (y1 ||| ((1 : Int32) <<< (r19 &&& 31))) (y2 + (y3 * r30)) (y3 * (y4 + (1 : Int32))) (y4 + 1)  hp
  obtain ⟨n, hp⟩ := hp
  exact ll_9 n x0 (0 : Int32) (0 : Int32) (1 : Int32) (0 : Int32)  hp
set_option maxRecDepth 100000 in
set_option maxHeartbeats 4000000 in
theorem c_X2_reach {l : Launch} {D : va_G} {ad : Nat → Nat} {ty : Nat → ClassId} (hl : l.stackTraces = false) (hj : ∀ i j, i < 68 → j < 68 → ad i = ad j → i = j) {σ : Dz} {x1 : Int32} {x2 : Int32} {post : Dz → Prop} (hp : P_X2_reach σ x1 x2 post) : Mz l D ad ty yX2_reach cX2_reach 4 none r_X2_reach nV0 σ [.ref (ad 12), .int x1, .int x2] (fun _ τ => post τ) (fun _ _ => False) := by
  refine mz_of (by decide) hl hj (Nat.le_of_ble_eq_true rfl) ?_
  intro p e s m args below meth c K hex hr
  unfold P_X2_reach at hp
  show Gz p l e r_X2_reach s m args below meth c D ad ty 4 0 0 (Ez below D ad ty nV0 (fun _ τ => post τ) (fun _ _ => False) args s 0 0) σ 0 [(0, .ref (ad 12)), (1, .int x1), (2, .int x2)] []
  refine gz_iload_n K dX2_reach_0 1 rfl ?_
  refine gz_callS K hex (c_X3_rankOf K.2.2.2.2.2 K.2.2.1 hp) cf_X3_rankOf zq2_47 dX2_reach_1 rfl rfl (Nat.le_of_ble_eq_true rfl) ⟨Nat.le_of_ble_eq_true rfl, Nat.le_of_ble_eq_true rfl⟩ ⟨Nat.le_of_ble_eq_true rfl, Nat.le_of_ble_eq_true rfl⟩ (Nat.le_of_ble_eq_true rfl) (Nat.le_of_ble_eq_true rfl) (fun _ _ h => h.elim) (fun r1 τ hp => ?_)
  obtain ⟨rfl, hp⟩ := hp
  refine gz_norm (st' := [.int r1]) (cells' := 0) (slots' := 0) rfl rfl rfl ?_
  refine gz_istore_n K [(3, .int r1), (0, .ref (ad 12)), (1, .int x1), (2, .int x2)] dX2_reach_4 (by decide) rfl ?_
  refine gz_iload_n K dX2_reach_5 0 rfl ?_
  refine gz_if_lt K 30 dX2_reach_6 (by decide) (fun h => ?_) (fun h => ?_)
  · have hp := hp.1 h
    exact gz_vret K hr hp dX2_reach_30 (Nat.le_of_ble_eq_true rfl) (Nat.le_of_ble_eq_true rfl)
  · have hp := hp.2 h
    refine gz_iload_n K dX2_reach_9 0 rfl ?_
    refine gz_aload_n K dX2_reach_10 1 rfl ?_
    refine gz_get K (v := .ref (ad 13)) (by decide) (ce_12 _ _ _ _ _ _) rfl inz_X2 0 (by decide) zq1_136 rfl dX2_reach_11 ?_
    refine gz_alen K (v := (5040 : Int32)) 3 rfl (by decide) (ce_13 _ _ _ _ _ _) (by decide) dX2_reach_14 ?_
    refine gz_icmp_ge K 30 dX2_reach_15 (by decide) (fun h => ?_) (fun h => ?_)
    · have hp := hp.1 h
      exact gz_vret K hr hp dX2_reach_30 (Nat.le_of_ble_eq_true rfl) (Nat.le_of_ble_eq_true rfl)
    · have hp := hp.2 h
      refine gz_aload_n K dX2_reach_18 1 rfl ?_
      refine gz_get K (v := .int (gz_i σ 12 5)) (by decide) (ce_12 _ _ _ _ _ _) rfl inz_X2 5 (by decide) zq1_141 rfl dX2_reach_19 ?_
      refine gz_aload_n K dX2_reach_22 1 rfl ?_
      refine gz_get K (v := .ref (ad 14)) (by decide) (ce_12 _ _ _ _ _ _) rfl inz_X2 1 (by decide) zq1_137 rfl dX2_reach_23 ?_
      refine gz_alen K (v := (5040 : Int32)) 3 rfl (by decide) (ce_14 _ _ _ _ _ _) (by decide) dX2_reach_26 ?_
      refine gz_icmp_lt K 31 dX2_reach_27 (by decide) (fun h => ?_) (fun h => ?_)
      · have hp := hp.1 h
        refine gz_aload_n K dX2_reach_31 1 rfl ?_
        refine gz_get K (v := .ref (ad 13)) (by decide) (ce_12 _ _ _ _ _ _) rfl inz_X2 0 (by decide) zq1_136 rfl dX2_reach_32 ?_
        refine gz_iload_n K dX2_reach_35 0 rfl ?_
        obtain ⟨h, hp⟩ := hp
        refine gz_iald K (by decide) (ce_13 _ _ _ _ _ _) h dX2_reach_36 ?_
        refine gz_iconst K (v := (-1 : Int32)) dX2_reach_37 (by decide) ?_
        refine gz_icmp_ne K 68 dX2_reach_38 (by decide) (fun h => ?_) (fun h => ?_)
        · have hp := hp.1 h
          exact gz_vret K hr hp dX2_reach_68 (Nat.le_of_ble_eq_true rfl) (Nat.le_of_ble_eq_true rfl)
        · have hp := hp.2 h
          refine gz_aload_n K dX2_reach_41 1 rfl ?_
          refine gz_get K (v := .ref (ad 13)) (by decide) (ce_12 _ _ _ _ _ _) rfl inz_X2 0 (by decide) zq1_136 rfl dX2_reach_42 ?_
          refine gz_iload_n K dX2_reach_45 0 rfl ?_
          refine gz_iload_n K dX2_reach_46 3 rfl ?_
          obtain ⟨h, hp⟩ := hp
          refine gz_iast K (x := x2) (by decide) (ce_13 ad ty) h dX2_reach_47 ?_
          refine gz_aload_n K dX2_reach_48 1 rfl ?_
          refine gz_get K (v := .ref (ad 14)) (by decide) (ce_12 _ _ _ _ _ _) rfl inz_X2 1 (by decide) zq1_137 rfl dX2_reach_49 ?_
          refine gz_aload_n K dX2_reach_52 1 rfl ?_
          refine gz_get K (v := .int (gz_i (sz_i σ 13 (r1).toNatClampNeg x2) 12 5)) (by decide) (ce_12 _ _ _ _ _ _) rfl inz_X2 5 (by decide) zq1_141 rfl dX2_reach_53 ?_
          refine gz_iload_n K dX2_reach_56 2 rfl ?_
          obtain ⟨h, hp⟩ := hp
          refine gz_iast K (x := x1) (by decide) (ce_14 ad ty) h dX2_reach_57 ?_
          refine gz_aload_n K dX2_reach_58 1 rfl ?_
          refine gz_dup K dX2_reach_59 rfl ?_
          refine gz_get K (v := .int (gz_i (sz_i (sz_i σ 13 (r1).toNatClampNeg x2) 14 ((gz_i (sz_i σ 13 (r1).toNatClampNeg x2) 12 5)).toNatClampNeg x1) 12 5)) (by decide) (ce_12 _ _ _ _ _ _) rfl inz_X2 5 (by decide) zq1_141 rfl dX2_reach_60 ?_
          refine gz_iconst K (v := (1 : Int32)) dX2_reach_63 (by decide) ?_
          refine gz_iadd K dX2_reach_64 ?_
          refine gz_put K (x := ((gz_i (sz_i (sz_i σ 13 (r1).toNatClampNeg x2) 14 ((gz_i (sz_i σ 13 (r1).toNatClampNeg x2) 12 5)).toNatClampNeg x1) 12 5) + (1 : Int32))) (by decide) (ce_12 _ _ _ _ _ _) rfl inz_X2 tyX2 tyX2_ok nmX2 5 (by decide) zq1_141 rfl (tyX2_ok _ (by decide)) rfl rfl (Nat.le_of_ble_eq_true rfl) peX2_5 dX2_reach_65 ?_
          exact gz_vret K hr hp dX2_reach_68 (Nat.le_of_ble_eq_true rfl) (Nat.le_of_ble_eq_true rfl)
      · have hp := hp.2 h
        exact gz_vret K hr hp dX2_reach_30 (Nat.le_of_ble_eq_true rfl) (Nat.le_of_ble_eq_true rfl)
set_option maxRecDepth 100000 in
set_option maxHeartbeats 4000000 in
theorem c_X2_build {l : Launch} {D : va_G} {ad : Nat → Nat} {ty : Nat → ClassId} (hl : l.stackTraces = false) (hj : ∀ i j, i < 68 → j < 68 → ad i = ad j → i = j) {σ : Dz} {k1 : Nat} (h1 : isS k1) {x2 : Int32} {post : Dz → Prop} (hp : P_X2_build σ k1 x2 post) : Mz l D ad ty yX2_build cX2_build 9 none r_X2_build nV0 σ [.ref (ad 12), .ref (ad k1), .int x2] (fun _ τ => post τ) (fun _ _ => False) := by
  refine mz_of (by decide) hl hj (Nat.le_of_ble_eq_true rfl) ?_
  intro p e s m args below meth c K hex hr
  unfold P_X2_build at hp
  show Gz p l e r_X2_build s m args below meth c D ad ty 9 0 0 (Ez below D ad ty nV0 (fun _ τ => post τ) (fun _ _ => False) args s 0 0) σ 0 [(0, .ref (ad 12)), (1, .ref (ad k1)), (2, .int x2)] []
  refine gz_aload_n K dX2_build_0 0 rfl ?_
  refine gz_aload_n K dX2_build_1 1 rfl ?_
  refine gz_callV K hex (c_X2_listTurns K.2.2.2.2.2 K.2.2.1 h1 hp) cf_X2_listTurns zq2_26 (by decide) (ce_12 _ _ _ _ _ _) rfl dX2_build_2 rfl rfl (Nat.le_of_ble_eq_true rfl) ⟨Nat.le_of_ble_eq_true rfl, Nat.le_of_ble_eq_true rfl⟩ ⟨Nat.le_of_ble_eq_true rfl, Nat.le_of_ble_eq_true rfl⟩ (Nat.le_of_ble_eq_true rfl) (Nat.le_of_ble_eq_true rfl) (fun _ _ h => h.elim) (fun _ τ2 hp => ?_)
  refine gz_norm (st' := []) (cells' := 0) (slots' := 0) rfl rfl rfl ?_
  refine gz_aload_n K dX2_build_5 0 rfl ?_
  refine gz_iload_n K dX2_build_6 2 rfl ?_
  refine gz_callV K hex (c_X2_clear K.2.2.2.2.2 K.2.2.1 hp) cf_X2_clear zq2_39 (by decide) (ce_12 _ _ _ _ _ _) rfl dX2_build_7 rfl rfl (Nat.le_of_ble_eq_true rfl) ⟨Nat.le_of_ble_eq_true rfl, Nat.le_of_ble_eq_true rfl⟩ ⟨Nat.le_of_ble_eq_true rfl, Nat.le_of_ble_eq_true rfl⟩ (Nat.le_of_ble_eq_true rfl) (Nat.le_of_ble_eq_true rfl) (fun _ _ h => h.elim) (fun r7 τ7 hp => ?_)
  refine gz_norm (st' := [.int r7]) (cells' := 0) (slots' := 0) rfl rfl rfl ?_
  refine gz_istore_n K [(3, .int r7), (0, .ref (ad 12)), (1, .ref (ad k1)), (2, .int x2)] dX2_build_10 (by decide) rfl ?_
  refine gz_aload_n K dX2_build_11 1 rfl ?_
  refine gz_ldc K zq2_34 dX2_build_12 ?_
  refine gz_iconst K (v := (0 : Int32)) dX2_build_14 (by decide) ?_
  refine gz_callV K hex (c_X2_reach K.2.2.2.2.2 K.2.2.1 hp) cf_X2_reach zq2_43 (by decide) (ce_12 _ _ _ _ _ _) rfl dX2_build_15 rfl rfl (Nat.le_of_ble_eq_true rfl) ⟨Nat.le_of_ble_eq_true rfl, Nat.le_of_ble_eq_true rfl⟩ ⟨Nat.le_of_ble_eq_true rfl, Nat.le_of_ble_eq_true rfl⟩ (Nat.le_of_ble_eq_true rfl) (Nat.le_of_ble_eq_true rfl) (fun _ _ h => h.elim) (fun _ τ15 hp => ?_)
  refine gz_norm (st' := []) (cells' := 0) (slots' := 0) rfl rfl rfl ?_
  refine gz_iconst K (v := (0 : Int32)) dX2_build_18 (by decide) ?_
  refine gz_istore K [(4, .int (0 : Int32)), (3, .int r7), (0, .ref (ad 12)), (1, .ref (ad k1)), (2, .int x2)] dX2_build_19 (by decide) rfl ?_
  refine gz_iconst K (v := (0 : Int32)) dX2_build_21 (by decide) ?_
  refine gz_istore K [(5, .int (0 : Int32)), (4, .int (0 : Int32)), (3, .int r7), (0, .ref (ad 12)), (1, .ref (ad k1)), (2, .int x2)] dX2_build_22 (by decide) rfl ?_
  refine gz_sub [3, 2, 1, 0] rfl ?_
  have ll_24 : ∀ (n_24 : Nat) (σ : Dz) (y3 : Int32) (y4 : Int32) (y5 : Int32) , L_X2_build_24 k1 post  n_24 σ y3 y4 y5 → Gz p l e r_X2_build s m args below meth c D ad ty 9 0 0 (Ez below D ad ty nV0 (fun _ τ => post τ) (fun _ _ => False) args s 0 0) σ 24 [(0, .ref (ad 12)), (3, .int y3), (4, .int y4), (5, .int y5)] [] := by
    intro n_24; induction n_24 with
    | zero => intro σ y3 y4 y5 hp; exact False.elim hp
    | succ n_24 ih_24 =>
      intro σ y3 y4 y5 hp
      have hp : B_X2_build_24 k1 post  (L_X2_build_24 k1 post  n_24) σ y3 y4 y5 := hp
      unfold B_X2_build_24 at hp
      have bb_115 : ∀ (σ : Dz) (y3 : Int32) (y5 : Int32) (y6 : Int32) , B_X2_build_115 k1 post (L_X2_build_24 k1 post  n_24) σ y3 y5 y6 → Gz p l e r_X2_build s m args below meth c D ad ty 9 0 0 (Ez below D ad ty nV0 (fun _ τ => post τ) (fun _ _ => False) args s 0 0) σ 115 [(0, .ref (ad 12)), (3, .int y3), (5, .int y5), (6, .int y6)] [] := by
        intro σ y3 y5 y6 hp
        unfold B_X2_build_115 at hp
        refine gz_aload_n K dX2_build_115 0 rfl ?_
        refine gz_get K (v := .ref (ad 15)) (by decide) (ce_12 _ _ _ _ _ _) rfl inz_X2 2 (by decide) zq1_138 rfl dX2_build_116 ?_
        refine gz_iload K dX2_build_119 2 rfl ?_
        refine gz_iconst K (v := (1 : Int32)) dX2_build_121 (by decide) ?_
        refine gz_iadd K dX2_build_122 ?_
        refine gz_iload K dX2_build_123 3 rfl ?_
        obtain ⟨h, hp⟩ := hp
        refine gz_iast K (x := y6) (by decide) (ce_15 ad ty) h dX2_build_125 ?_
        refine gz_aload_n K dX2_build_126 0 rfl ?_
        refine gz_iload K dX2_build_127 2 rfl ?_
        refine gz_put K (x := y5) (by decide) (ce_12 _ _ _ _ _ _) rfl inz_X2 tyX2 tyX2_ok nmX2 6 (by decide) zq1_142 rfl (tyX2_ok _ (by decide)) rfl rfl (Nat.le_of_ble_eq_true rfl) peX2_6 dX2_build_129 ?_
        refine gz_iload K dX2_build_132 3 rfl ?_
        refine gz_istore K [(4, .int y6), (0, .ref (ad 12)), (3, .int y3), (5, .int y5), (6, .int y6)] dX2_build_134 (by decide) rfl ?_
        refine gz_iinc K (v := (y5 + 1)) [(5, .int (y5 + 1)), (4, .int y6), (0, .ref (ad 12)), (3, .int y3), (6, .int y6)] dX2_build_136 3 rfl (by first | rfl | decide) (by decide) rfl ?_
        refine gz_goto K 24 dX2_build_139 (by decide) ?_
        refine gz_sub [2, 3, 1, 0] rfl ?_
        exact ih_24 (sz_i (sz_i σ 15 ((y5 + (1 : Int32))).toNatClampNeg y6) 12 6 y5) y3 y6 (y5 + 1)  hp
      refine gz_iload K dX2_build_24 3 rfl ?_
      refine gz_sipush K (v := (5040 : Int32)) dX2_build_26 (by decide) ?_
      refine gz_icmp_ge K 142 dX2_build_29 (by decide) (fun h => ?_) (fun h => ?_)
      · have hp := hp.1 h
        exact gz_vret K hr hp dX2_build_142 (Nat.le_of_ble_eq_true rfl) (Nat.le_of_ble_eq_true rfl)
      · have hp := hp.2 h
        refine gz_iload K dX2_build_32 2 rfl ?_
        refine gz_aload_n K dX2_build_34 0 rfl ?_
        refine gz_get K (v := .int (gz_i σ 12 5)) (by decide) (ce_12 _ _ _ _ _ _) rfl inz_X2 5 (by decide) zq1_141 rfl dX2_build_35 ?_
        refine gz_icmp_ge K 142 dX2_build_38 (by decide) (fun h => ?_) (fun h => ?_)
        · have hp := hp.1 h
          exact gz_vret K hr hp dX2_build_142 (Nat.le_of_ble_eq_true rfl) (Nat.le_of_ble_eq_true rfl)
        · have hp := hp.2 h
          refine gz_aload_n K dX2_build_41 0 rfl ?_
          refine gz_get K (v := .int (gz_i σ 12 5)) (by decide) (ce_12 _ _ _ _ _ _) rfl inz_X2 5 (by decide) zq1_141 rfl dX2_build_42 ?_
          refine gz_istore K [(6, .int (gz_i σ 12 5)), (0, .ref (ad 12)), (3, .int y3), (4, .int y4), (5, .int y5)] dX2_build_45 (by decide) rfl ?_
          refine gz_iload K dX2_build_47 3 rfl ?_
          refine gz_istore K [(7, .int y4), (6, .int (gz_i σ 12 5)), (0, .ref (ad 12)), (3, .int y3), (4, .int y4), (5, .int y5)] dX2_build_49 (by decide) rfl ?_
          refine gz_sub [2, 3, 5, 1, 0] rfl ?_
          have ll_51 : ∀ (n_51 : Nat) (σ : Dz) (y3 : Int32) (y5 : Int32) (y6 : Int32) (y7 : Int32) , L_X2_build_51 k1 post (L_X2_build_24 k1 post  n_24) n_51 σ y3 y5 y6 y7 → Gz p l e r_X2_build s m args below meth c D ad ty 9 0 0 (Ez below D ad ty nV0 (fun _ τ => post τ) (fun _ _ => False) args s 0 0) σ 51 [(0, .ref (ad 12)), (3, .int y3), (5, .int y5), (6, .int y6), (7, .int y7)] [] := by
            intro n_51; induction n_51 with
            | zero => intro σ y3 y5 y6 y7 hp; exact False.elim hp
            | succ n_51 ih_51 =>
              intro σ y3 y5 y6 y7 hp
              have hp : B_X2_build_51 k1 post (L_X2_build_24 k1 post  n_24) (L_X2_build_51 k1 post (L_X2_build_24 k1 post  n_24) n_51) σ y3 y5 y6 y7 := hp
              unfold B_X2_build_51 at hp
              refine gz_iload K dX2_build_51 4 rfl ?_
              refine gz_iload K dX2_build_53 3 rfl ?_
              refine gz_icmp_ge K 115 dX2_build_55 (by decide) (fun h => ?_) (fun h => ?_)
              · have hp := hp.1 h
                refine gz_sub [0, 1, 2, 3] rfl ?_
                exact bb_115 σ y3 y5 y6  hp
              · have hp := hp.2 h
                refine gz_aload_n K dX2_build_58 0 rfl ?_
                refine gz_get K (v := .int (gz_i σ 12 5)) (by decide) (ce_12 _ _ _ _ _ _) rfl inz_X2 5 (by decide) zq1_141 rfl dX2_build_59 ?_
                refine gz_iload_n K dX2_build_62 1 rfl ?_
                refine gz_icmp_ge K 115 dX2_build_63 (by decide) (fun h => ?_) (fun h => ?_)
                · have hp := hp.1 h
                  refine gz_sub [0, 1, 2, 3] rfl ?_
                  exact bb_115 σ y3 y5 y6  hp
                · have hp := hp.2 h
                  refine gz_iconst K (v := (0 : Int32)) dX2_build_66 (by decide) ?_
                  refine gz_istore K [(8, .int (0 : Int32)), (0, .ref (ad 12)), (3, .int y3), (5, .int y5), (6, .int y6), (7, .int y7)] dX2_build_67 (by decide) rfl ?_
                  refine gz_sub [1, 2, 3, 4, 5, 0] rfl ?_
                  have ll_69 : ∀ (n_69 : Nat) (σ : Dz) (y3 : Int32) (y5 : Int32) (y6 : Int32) (y7 : Int32) (y8 : Int32) , L_X2_build_69 k1 post (L_X2_build_24 k1 post  n_24) (L_X2_build_51 k1 post (L_X2_build_24 k1 post  n_24) n_51) n_69 σ y3 y5 y6 y7 y8 → Gz p l e r_X2_build s m args below meth c D ad ty 9 0 0 (Ez below D ad ty nV0 (fun _ τ => post τ) (fun _ _ => False) args s 0 0) σ 69 [(0, .ref (ad 12)), (3, .int y3), (5, .int y5), (6, .int y6), (7, .int y7), (8, .int y8)] [] := by
                    intro n_69; induction n_69 with
                    | zero => intro σ y3 y5 y6 y7 y8 hp; exact False.elim hp
                    | succ n_69 ih_69 =>
                      intro σ y3 y5 y6 y7 y8 hp
                      have hp : B_X2_build_69 k1 post (L_X2_build_24 k1 post  n_24) (L_X2_build_51 k1 post (L_X2_build_24 k1 post  n_24) n_51) (L_X2_build_69 k1 post (L_X2_build_24 k1 post  n_24) (L_X2_build_51 k1 post (L_X2_build_24 k1 post  n_24) n_51) n_69) σ y3 y5 y6 y7 y8 := hp
                      unfold B_X2_build_69 at hp
                      refine gz_iload K dX2_build_69 5 rfl ?_
                      refine gz_aload_n K dX2_build_71 0 rfl ?_
                      refine gz_get K (v := .int (gz_i σ 12 4)) (by decide) (ce_12 _ _ _ _ _ _) rfl inz_X2 4 (by decide) zq1_140 rfl dX2_build_72 ?_
                      refine gz_icmp_ge K 109 dX2_build_75 (by decide) (fun h => ?_) (fun h => ?_)
                      · have hp := hp.1 h
                        refine gz_iinc K (v := (y7 + 1)) [(7, .int (y7 + 1)), (0, .ref (ad 12)), (3, .int y3), (5, .int y5), (6, .int y6), (8, .int y8)] dX2_build_109 4 rfl (by first | rfl | decide) (by decide) rfl ?_
                        refine gz_goto K 51 dX2_build_112 (by decide) ?_
                        refine gz_sub [1, 2, 3, 4, 0] rfl ?_
                        exact ih_51 σ y3 y5 y6 (y7 + 1)  hp
                      · have hp := hp.2 h
                        refine gz_aload_n K dX2_build_78 0 rfl ?_
                        refine gz_aload_n K dX2_build_79 0 rfl ?_
                        refine gz_get K (v := .ref (ad 14)) (by decide) (ce_12 _ _ _ _ _ _) rfl inz_X2 1 (by decide) zq1_137 rfl dX2_build_80 ?_
                        refine gz_iload K dX2_build_83 4 rfl ?_
                        obtain ⟨h, hp⟩ := hp
                        refine gz_iald K (by decide) (ce_14 _ _ _ _ _ _) h dX2_build_85 ?_
                        refine gz_aload_n K dX2_build_86 0 rfl ?_
                        refine gz_get K (v := .ref (ad 16)) (by decide) (ce_12 _ _ _ _ _ _) rfl inz_X2 3 (by decide) zq1_139 rfl dX2_build_87 ?_
                        refine gz_iload K dX2_build_90 5 rfl ?_
                        obtain ⟨h, hp⟩ := hp
                        refine gz_iald K (by decide) (ce_16 _ _ _ _ _ _) h dX2_build_92 ?_
                        refine gz_callS K hex (c_X3_then K.2.2.2.2.2 K.2.2.1 hp) cf_X3_then zq2_59 dX2_build_93 rfl rfl (Nat.le_of_ble_eq_true rfl) ⟨Nat.le_of_ble_eq_true rfl, Nat.le_of_ble_eq_true rfl⟩ ⟨Nat.le_of_ble_eq_true rfl, Nat.le_of_ble_eq_true rfl⟩ (Nat.le_of_ble_eq_true rfl) (Nat.le_of_ble_eq_true rfl) (fun _ _ h => h.elim) (fun r93 τ hp => ?_)
                        obtain ⟨rfl, hp⟩ := hp
                        refine gz_norm (st' := [.int r93, .ref (ad 12)]) (cells' := 0) (slots' := 0) rfl rfl rfl ?_
                        refine gz_iload K dX2_build_96 2 rfl ?_
                        refine gz_iconst K (v := (1 : Int32)) dX2_build_98 (by decide) ?_
                        refine gz_iadd K dX2_build_99 ?_
                        refine gz_callV K hex (c_X2_reach K.2.2.2.2.2 K.2.2.1 hp) cf_X2_reach zq2_43 (by decide) (ce_12 _ _ _ _ _ _) rfl dX2_build_100 rfl rfl (Nat.le_of_ble_eq_true rfl) ⟨Nat.le_of_ble_eq_true rfl, Nat.le_of_ble_eq_true rfl⟩ ⟨Nat.le_of_ble_eq_true rfl, Nat.le_of_ble_eq_true rfl⟩ (Nat.le_of_ble_eq_true rfl) (Nat.le_of_ble_eq_true rfl) (fun _ _ h => h.elim) (fun _ τ100 hp => ?_)
                        refine gz_norm (st' := []) (cells' := 0) (slots' := 0) rfl rfl rfl ?_
                        refine gz_iinc K (v := (y8 + 1)) [(8, .int (y8 + 1)), (0, .ref (ad 12)), (3, .int y3), (5, .int y5), (6, .int y6), (7, .int y7)] dX2_build_103 5 rfl (by first | rfl | decide) (by decide) rfl ?_
                        refine gz_goto K 69 dX2_build_106 (by decide) ?_
                        refine gz_sub [1, 2, 3, 4, 5, 0] rfl ?_
                        exact ih_69 τ100 y3 y5 y6 y7 (y8 + 1)  hp
                  obtain ⟨n, hp⟩ := hp
                  exact ll_69 n σ y3 y5 y6 y7 (0 : Int32)  hp
          obtain ⟨n, hp⟩ := hp
          exact ll_51 n σ y3 y5 (gz_i σ 12 5) y4  hp
  obtain ⟨n, hp⟩ := hp
  exact ll_24 n τ15 r7 (0 : Int32) (0 : Int32)  hp
set_option maxRecDepth 100000 in
set_option maxHeartbeats 4000000 in
theorem c_X2_levelOf {l : Launch} {D : va_G} {ad : Nat → Nat} {ty : Nat → ClassId} (hl : l.stackTraces = false) (hj : ∀ i j, i < 68 → j < 68 → ad i = ad j → i = j) {σ : Dz} {x1 : Int32} {post : Int32 → Prop} (hp : P_X2_levelOf σ x1 post) : Mz l D ad ty yX2_levelOf cX2_levelOf 3 (some .int) r_X2_levelOf nI0 σ [.ref (ad 12), .int x1] (fun r τ => σ = τ ∧ post r) (fun _ _ => False) := by
  refine mz_of (by decide) hl hj (Nat.le_of_ble_eq_true rfl) ?_
  intro p e s m args below meth c K hex hr
  unfold P_X2_levelOf at hp
  show Gz p l e r_X2_levelOf s m args below meth c D ad ty 3 0 0 (Ez below D ad ty nI0 (fun r τ => σ = τ ∧ post r) (fun _ _ => False) args s 0 0) σ 0 [(0, .ref (ad 12)), (1, .int x1)] []
  refine gz_iload_n K dX2_levelOf_0 1 rfl ?_
  refine gz_callS K hex (c_X3_rankOf K.2.2.2.2.2 K.2.2.1 hp) cf_X3_rankOf zq2_47 dX2_levelOf_1 rfl rfl (Nat.le_of_ble_eq_true rfl) ⟨Nat.le_of_ble_eq_true rfl, Nat.le_of_ble_eq_true rfl⟩ ⟨Nat.le_of_ble_eq_true rfl, Nat.le_of_ble_eq_true rfl⟩ (Nat.le_of_ble_eq_true rfl) (Nat.le_of_ble_eq_true rfl) (fun _ _ h => h.elim) (fun r1 τ hp => ?_)
  obtain ⟨rfl, hp⟩ := hp
  refine gz_norm (st' := [.int r1]) (cells' := 0) (slots' := 0) rfl rfl rfl ?_
  refine gz_istore_n K [(2, .int r1), (0, .ref (ad 12)), (1, .int x1)] dX2_levelOf_4 (by decide) rfl ?_
  refine gz_iload_n K dX2_levelOf_5 0 rfl ?_
  refine gz_if_lt K 27 dX2_levelOf_6 (by decide) (fun h => ?_) (fun h => ?_)
  · have hp := hp.1 h
    refine gz_iconst K (v := (-1 : Int32)) dX2_levelOf_27 (by decide) ?_
    exact gz_iret K hr ⟨rfl, hp⟩ dX2_levelOf_28 (Nat.le_of_ble_eq_true rfl) (Nat.le_of_ble_eq_true rfl)
  · have hp := hp.2 h
    refine gz_iload_n K dX2_levelOf_9 0 rfl ?_
    refine gz_aload_n K dX2_levelOf_10 1 rfl ?_
    refine gz_get K (v := .ref (ad 13)) (by decide) (ce_12 _ _ _ _ _ _) rfl inz_X2 0 (by decide) zq1_136 rfl dX2_levelOf_11 ?_
    refine gz_alen K (v := (5040 : Int32)) 3 rfl (by decide) (ce_13 _ _ _ _ _ _) (by decide) dX2_levelOf_14 ?_
    refine gz_icmp_ge K 27 dX2_levelOf_15 (by decide) (fun h => ?_) (fun h => ?_)
    · have hp := hp.1 h
      refine gz_iconst K (v := (-1 : Int32)) dX2_levelOf_27 (by decide) ?_
      exact gz_iret K hr ⟨rfl, hp⟩ dX2_levelOf_28 (Nat.le_of_ble_eq_true rfl) (Nat.le_of_ble_eq_true rfl)
    · have hp := hp.2 h
      refine gz_aload_n K dX2_levelOf_18 1 rfl ?_
      refine gz_get K (v := .ref (ad 13)) (by decide) (ce_12 _ _ _ _ _ _) rfl inz_X2 0 (by decide) zq1_136 rfl dX2_levelOf_19 ?_
      refine gz_iload_n K dX2_levelOf_22 0 rfl ?_
      obtain ⟨h, hp⟩ := hp
      refine gz_iald K (by decide) (ce_13 _ _ _ _ _ _) h dX2_levelOf_23 ?_
      refine gz_goto K 28 dX2_levelOf_24 (by decide) ?_
      exact gz_iret K hr ⟨rfl, hp⟩ dX2_levelOf_28 (Nat.le_of_ble_eq_true rfl) (Nat.le_of_ble_eq_true rfl)
set_option maxRecDepth 100000 in
set_option maxHeartbeats 4000000 in
theorem c_X2_size {l : Launch} {D : va_G} {ad : Nat → Nat} {ty : Nat → ClassId} (hl : l.stackTraces = false) (hj : ∀ i j, i < 68 → j < 68 → ad i = ad j → i = j) {σ : Dz} {post : Int32 → Prop} (hp : P_X2_size σ post) : Mz l D ad ty yX2_size cX2_size 1 (some .int) r_X2_size nI0 σ [.ref (ad 12)] (fun r τ => σ = τ ∧ post r) (fun _ _ => False) := by
  refine mz_of (by decide) hl hj (Nat.le_of_ble_eq_true rfl) ?_
  intro p e s m args below meth c K hex hr
  unfold P_X2_size at hp
  show Gz p l e r_X2_size s m args below meth c D ad ty 1 0 0 (Ez below D ad ty nI0 (fun r τ => σ = τ ∧ post r) (fun _ _ => False) args s 0 0) σ 0 [(0, .ref (ad 12))] []
  refine gz_aload_n K dX2_size_0 0 rfl ?_
  refine gz_get K (v := .int (gz_i σ 12 5)) (by decide) (ce_12 _ _ _ _ _ _) rfl inz_X2 5 (by decide) zq1_141 rfl dX2_size_1 ?_
  exact gz_iret K hr ⟨rfl, hp⟩ dX2_size_4 (Nat.le_of_ble_eq_true rfl) (Nat.le_of_ble_eq_true rfl)
set_option maxRecDepth 100000 in
set_option maxHeartbeats 4000000 in
theorem c_X2_lastLevel {l : Launch} {D : va_G} {ad : Nat → Nat} {ty : Nat → ClassId} (hl : l.stackTraces = false) (hj : ∀ i j, i < 68 → j < 68 → ad i = ad j → i = j) {σ : Dz} {post : Int32 → Prop} (hp : P_X2_lastLevel σ post) : Mz l D ad ty yX2_lastLevel cX2_lastLevel 1 (some .int) r_X2_lastLevel nI0 σ [.ref (ad 12)] (fun r τ => σ = τ ∧ post r) (fun _ _ => False) := by
  refine mz_of (by decide) hl hj (Nat.le_of_ble_eq_true rfl) ?_
  intro p e s m args below meth c K hex hr
  unfold P_X2_lastLevel at hp
  show Gz p l e r_X2_lastLevel s m args below meth c D ad ty 1 0 0 (Ez below D ad ty nI0 (fun r τ => σ = τ ∧ post r) (fun _ _ => False) args s 0 0) σ 0 [(0, .ref (ad 12))] []
  refine gz_aload_n K dX2_lastLevel_0 0 rfl ?_
  refine gz_get K (v := .int (gz_i σ 12 6)) (by decide) (ce_12 _ _ _ _ _ _) rfl inz_X2 6 (by decide) zq1_142 rfl dX2_lastLevel_1 ?_
  exact gz_iret K hr ⟨rfl, hp⟩ dX2_lastLevel_4 (Nat.le_of_ble_eq_true rfl) (Nat.le_of_ble_eq_true rfl)
set_option maxRecDepth 100000 in
set_option maxHeartbeats 4000000 in
theorem c_X2_sizeOfLevel {l : Launch} {D : va_G} {ad : Nat → Nat} {ty : Nat → ClassId} (hl : l.stackTraces = false) (hj : ∀ i j, i < 68 → j < 68 → ad i = ad j → i = j) {σ : Dz} {x1 : Int32} {post : Int32 → Prop} (hp : P_X2_sizeOfLevel σ x1 post) : Mz l D ad ty yX2_sizeOfLevel cX2_sizeOfLevel 2 (some .int) r_X2_sizeOfLevel nI0 σ [.ref (ad 12), .int x1] (fun r τ => σ = τ ∧ post r) (fun _ _ => False) := by
  refine mz_of (by decide) hl hj (Nat.le_of_ble_eq_true rfl) ?_
  intro p e s m args below meth c K hex hr
  unfold P_X2_sizeOfLevel at hp
  show Gz p l e r_X2_sizeOfLevel s m args below meth c D ad ty 2 0 0 (Ez below D ad ty nI0 (fun r τ => σ = τ ∧ post r) (fun _ _ => False) args s 0 0) σ 0 [(0, .ref (ad 12)), (1, .int x1)] []
  refine gz_iload_n K dX2_sizeOfLevel_0 1 rfl ?_
  refine gz_if_lt K 30 dX2_sizeOfLevel_1 (by decide) (fun h => ?_) (fun h => ?_)
  · have hp := hp.1 h
    refine gz_iconst K (v := (0 : Int32)) dX2_sizeOfLevel_30 (by decide) ?_
    exact gz_iret K hr ⟨rfl, hp⟩ dX2_sizeOfLevel_31 (Nat.le_of_ble_eq_true rfl) (Nat.le_of_ble_eq_true rfl)
  · have hp := hp.2 h
    refine gz_iload_n K dX2_sizeOfLevel_4 1 rfl ?_
    refine gz_aload_n K dX2_sizeOfLevel_5 0 rfl ?_
    refine gz_get K (v := .int (gz_i σ 12 6)) (by decide) (ce_12 _ _ _ _ _ _) rfl inz_X2 6 (by decide) zq1_142 rfl dX2_sizeOfLevel_6 ?_
    refine gz_icmp_gt K 30 dX2_sizeOfLevel_9 (by decide) (fun h => ?_) (fun h => ?_)
    · have hp := hp.1 h
      refine gz_iconst K (v := (0 : Int32)) dX2_sizeOfLevel_30 (by decide) ?_
      exact gz_iret K hr ⟨rfl, hp⟩ dX2_sizeOfLevel_31 (Nat.le_of_ble_eq_true rfl) (Nat.le_of_ble_eq_true rfl)
    · have hp := hp.2 h
      refine gz_aload_n K dX2_sizeOfLevel_12 0 rfl ?_
      refine gz_get K (v := .ref (ad 15)) (by decide) (ce_12 _ _ _ _ _ _) rfl inz_X2 2 (by decide) zq1_138 rfl dX2_sizeOfLevel_13 ?_
      refine gz_iload_n K dX2_sizeOfLevel_16 1 rfl ?_
      refine gz_iconst K (v := (1 : Int32)) dX2_sizeOfLevel_17 (by decide) ?_
      refine gz_iadd K dX2_sizeOfLevel_18 ?_
      obtain ⟨h, hp⟩ := hp
      refine gz_iald K (by decide) (ce_15 _ _ _ _ _ _) h dX2_sizeOfLevel_19 ?_
      refine gz_aload_n K dX2_sizeOfLevel_20 0 rfl ?_
      refine gz_get K (v := .ref (ad 15)) (by decide) (ce_12 _ _ _ _ _ _) rfl inz_X2 2 (by decide) zq1_138 rfl dX2_sizeOfLevel_21 ?_
      refine gz_iload_n K dX2_sizeOfLevel_24 1 rfl ?_
      obtain ⟨h, hp⟩ := hp
      refine gz_iald K (by decide) (ce_15 _ _ _ _ _ _) h dX2_sizeOfLevel_25 ?_
      refine gz_isub K dX2_sizeOfLevel_26 ?_
      refine gz_goto K 31 dX2_sizeOfLevel_27 (by decide) ?_
      exact gz_iret K hr ⟨rfl, hp⟩ dX2_sizeOfLevel_31 (Nat.le_of_ble_eq_true rfl) (Nat.le_of_ble_eq_true rfl)
set_option maxRecDepth 100000 in
set_option maxHeartbeats 4000000 in
theorem c_X2_sumOfDepths {l : Launch} {D : va_G} {ad : Nat → Nat} {ty : Nat → ClassId} (hl : l.stackTraces = false) (hj : ∀ i j, i < 68 → j < 68 → ad i = ad j → i = j) {σ : Dz} {post : Int32 → Prop} (hp : P_X2_sumOfDepths σ post) : Mz l D ad ty yX2_sumOfDepths cX2_sumOfDepths 3 (some .int) r_X2_sumOfDepths nI0 σ [.ref (ad 12)] (fun r τ => σ = τ ∧ post r) (fun _ _ => False) := by
  refine mz_of (by decide) hl hj (Nat.le_of_ble_eq_true rfl) ?_
  intro p e s m args below meth c K hex hr
  unfold P_X2_sumOfDepths at hp
  show Gz p l e r_X2_sumOfDepths s m args below meth c D ad ty 3 0 0 (Ez below D ad ty nI0 (fun r τ => σ = τ ∧ post r) (fun _ _ => False) args s 0 0) σ 0 [(0, .ref (ad 12))] []
  refine gz_iconst K (v := (0 : Int32)) dX2_sumOfDepths_0 (by decide) ?_
  refine gz_istore_n K [(1, .int (0 : Int32)), (0, .ref (ad 12))] dX2_sumOfDepths_1 (by decide) rfl ?_
  refine gz_iconst K (v := (1 : Int32)) dX2_sumOfDepths_2 (by decide) ?_
  refine gz_istore_n K [(2, .int (1 : Int32)), (1, .int (0 : Int32)), (0, .ref (ad 12))] dX2_sumOfDepths_3 (by decide) rfl ?_
  refine gz_sub [2, 1, 0] rfl ?_
  have ll_4 : ∀ (n_4 : Nat) (y1 : Int32) (y2 : Int32) , L_X2_sumOfDepths_4 σ post  n_4 y1 y2 → Gz p l e r_X2_sumOfDepths s m args below meth c D ad ty 3 0 0 (Ez below D ad ty nI0 (fun r τ => σ = τ ∧ post r) (fun _ _ => False) args s 0 0) σ 4 [(0, .ref (ad 12)), (1, .int y1), (2, .int y2)] [] := by
    intro n_4; induction n_4 with
    | zero => intro y1 y2 hp; exact False.elim hp
    | succ n_4 ih_4 =>
      intro y1 y2 hp
      have hp : B_X2_sumOfDepths_4 σ post  (L_X2_sumOfDepths_4 σ post  n_4) y1 y2 := hp
      unfold B_X2_sumOfDepths_4 at hp
      refine gz_iload_n K dX2_sumOfDepths_4 2 rfl ?_
      refine gz_aload_n K dX2_sumOfDepths_5 0 rfl ?_
      refine gz_get K (v := .int (gz_i σ 12 6)) (by decide) (ce_12 _ _ _ _ _ _) rfl inz_X2 6 (by decide) zq1_142 rfl dX2_sumOfDepths_6 ?_
      refine gz_icmp_gt K 28 dX2_sumOfDepths_9 (by decide) (fun h => ?_) (fun h => ?_)
      · have hp := hp.1 h
        refine gz_iload_n K dX2_sumOfDepths_28 1 rfl ?_
        exact gz_iret K hr ⟨rfl, hp⟩ dX2_sumOfDepths_29 (Nat.le_of_ble_eq_true rfl) (Nat.le_of_ble_eq_true rfl)
      · have hp := hp.2 h
        refine gz_iload_n K dX2_sumOfDepths_12 1 rfl ?_
        refine gz_iload_n K dX2_sumOfDepths_13 2 rfl ?_
        refine gz_aload_n K dX2_sumOfDepths_14 0 rfl ?_
        refine gz_iload_n K dX2_sumOfDepths_15 2 rfl ?_
        refine gz_callV K hex (c_X2_sizeOfLevel K.2.2.2.2.2 K.2.2.1 hp) cf_X2_sizeOfLevel zq2_90 (by decide) (ce_12 _ _ _ _ _ _) rfl dX2_sumOfDepths_16 rfl rfl (Nat.le_of_ble_eq_true rfl) ⟨Nat.le_of_ble_eq_true rfl, Nat.le_of_ble_eq_true rfl⟩ ⟨Nat.le_of_ble_eq_true rfl, Nat.le_of_ble_eq_true rfl⟩ (Nat.le_of_ble_eq_true rfl) (Nat.le_of_ble_eq_true rfl) (fun _ _ h => h.elim) (fun r16 τ hp => ?_)
        obtain ⟨rfl, hp⟩ := hp
        refine gz_norm (st' := [.int r16, .int y2, .int y1]) (cells' := 0) (slots' := 0) rfl rfl rfl ?_
        refine gz_imul K dX2_sumOfDepths_19 ?_
        refine gz_iadd K dX2_sumOfDepths_20 ?_
        refine gz_istore_n K [(1, .int (y1 + (y2 * r16))), (0, .ref (ad 12)), (2, .int y2)] dX2_sumOfDepths_21 (by decide) rfl ?_
        refine gz_iinc K (v := (y2 + 1)) [(2, .int (y2 + 1)), (1, .int (y1 + (y2 * r16))), (0, .ref (ad 12))] dX2_sumOfDepths_22 2 rfl (by first | rfl | decide) (by decide) rfl ?_
        refine gz_goto K 4 dX2_sumOfDepths_25 (by decide) ?_
        refine gz_sub [2, 1, 0] rfl ?_
        exact ih_4 (y1 + (y2 * r16)) (y2 + 1)  hp
  obtain ⟨n, hp⟩ := hp
  exact ll_4 n (0 : Int32) (1 : Int32)  hp
set_option maxRecDepth 100000 in
set_option maxHeartbeats 4000000 in
theorem c_X3_inverseOf {l : Launch} {D : va_G} {ad : Nat → Nat} {ty : Nat → ClassId} (hl : l.stackTraces = false) (hj : ∀ i j, i < 68 → j < 68 → ad i = ad j → i = j) {σ : Dz} {x0 : Int32} {post : Int32 → Prop} (hp : P_X3_inverseOf x0 post) : Mz l D ad ty yX3_inverseOf cX3_inverseOf 3 (some .int) r_X3_inverseOf nI0 σ [.int x0] (fun r τ => σ = τ ∧ post r) (fun _ _ => False) := by
  refine mz_of (by decide) hl hj (Nat.le_of_ble_eq_true rfl) ?_
  intro p e s m args below meth c K hex hr
  unfold P_X3_inverseOf at hp
  show Gz p l e r_X3_inverseOf s m args below meth c D ad ty 3 0 0 (Ez below D ad ty nI0 (fun r τ => σ = τ ∧ post r) (fun _ _ => False) args s 0 0) σ 0 [(0, .int x0)] []
  refine gz_iconst K (v := (0 : Int32)) dX3_inverseOf_0 (by decide) ?_
  refine gz_istore_n K [(1, .int (0 : Int32)), (0, .int x0)] dX3_inverseOf_1 (by decide) rfl ?_
  refine gz_iconst K (v := (0 : Int32)) dX3_inverseOf_2 (by decide) ?_
  refine gz_istore_n K [(2, .int (0 : Int32)), (1, .int (0 : Int32)), (0, .int x0)] dX3_inverseOf_3 (by decide) rfl ?_
  refine gz_sub [2, 1, 0] rfl ?_
  have ll_4 : ∀ (n_4 : Nat) (y0 : Int32) (y1 : Int32) (y2 : Int32) , L_X3_inverseOf_4 post  n_4 y0 y1 y2 → Gz p l e r_X3_inverseOf s m args below meth c D ad ty 3 0 0 (Ez below D ad ty nI0 (fun r τ => σ = τ ∧ post r) (fun _ _ => False) args s 0 0) σ 4 [(0, .int y0), (1, .int y1), (2, .int y2)] [] := by
    intro n_4; induction n_4 with
    | zero => intro y0 y1 y2 hp; exact False.elim hp
    | succ n_4 ih_4 =>
      intro y0 y1 y2 hp
      have hp : B_X3_inverseOf_4 post  (L_X3_inverseOf_4 post  n_4) y0 y1 y2 := hp
      unfold B_X3_inverseOf_4 at hp
      refine gz_iload_n K dX3_inverseOf_4 2 rfl ?_
      refine gz_bipush K (v := (7 : Int32)) dX3_inverseOf_5 (by decide) ?_
      refine gz_icmp_ge K 28 dX3_inverseOf_7 (by decide) (fun h => ?_) (fun h => ?_)
      · have hp := hp.1 h
        refine gz_iload_n K dX3_inverseOf_28 1 rfl ?_
        exact gz_iret K hr ⟨rfl, hp⟩ dX3_inverseOf_29 (Nat.le_of_ble_eq_true rfl) (Nat.le_of_ble_eq_true rfl)
      · have hp := hp.2 h
        refine gz_iload_n K dX3_inverseOf_10 1 rfl ?_
        refine gz_iload_n K dX3_inverseOf_11 2 rfl ?_
        refine gz_iconst K (v := (3 : Int32)) dX3_inverseOf_12 (by decide) ?_
        refine gz_iload_n K dX3_inverseOf_13 0 rfl ?_
        refine gz_iload_n K dX3_inverseOf_14 2 rfl ?_
        refine gz_callS K hex (c_X3_imageOf K.2.2.2.2.2 K.2.2.1 hp) cf_X3_imageOf zq2_50 dX3_inverseOf_15 rfl rfl (Nat.le_of_ble_eq_true rfl) ⟨Nat.le_of_ble_eq_true rfl, Nat.le_of_ble_eq_true rfl⟩ ⟨Nat.le_of_ble_eq_true rfl, Nat.le_of_ble_eq_true rfl⟩ (Nat.le_of_ble_eq_true rfl) (Nat.le_of_ble_eq_true rfl) (fun _ _ h => h.elim) (fun r15 τ hp => ?_)
        obtain ⟨rfl, hp⟩ := hp
        refine gz_norm (st' := [.int r15, .int (3 : Int32), .int y2, .int y1]) (cells' := 0) (slots' := 0) rfl rfl rfl ?_
        refine gz_imul K dX3_inverseOf_18 ?_
        refine gz_ishl K dX3_inverseOf_19 ?_
        refine gz_ior K dX3_inverseOf_20 ?_
        refine gz_istore_n K [(1, .int (y1 ||| (y2 <<< (((3 : Int32) * r15) &&& 31)))), (0, .int y0), (2, .int y2)] dX3_inverseOf_21 (by decide) rfl ?_
        refine gz_iinc K (v := (y2 + 1)) [(2, .int (y2 + 1)), (1, .int (y1 ||| (y2 <<< (((3 : Int32) * r15) &&& 31)))), (0, .int y0)] dX3_inverseOf_22 2 rfl (by first | rfl | decide) (by decide) rfl ?_
        refine gz_goto K 4 dX3_inverseOf_25 (by decide) ?_
        refine gz_sub [2, 1, 0] rfl ?_
        exact ih_4 y0 (y1 ||| (y2 <<< (((3 : Int32) * r15) &&& 31))) (y2 + 1)  hp
  obtain ⟨n, hp⟩ := hp
  exact ll_4 n x0 (0 : Int32) (0 : Int32)  hp
set_option maxRecDepth 100000 in
set_option maxHeartbeats 4000000 in
theorem c_X3_differences {l : Launch} {D : va_G} {ad : Nat → Nat} {ty : Nat → ClassId} (hl : l.stackTraces = false) (hj : ∀ i j, i < 68 → j < 68 → ad i = ad j → i = j) {σ : Dz} {x0 : Int32} {x1 : Int32} {post : Int32 → Prop} (hp : P_X3_differences x0 x1 post) : Mz l D ad ty yX3_differences cX3_differences 4 (some .int) r_X3_differences nI0 σ [.int x0, .int x1] (fun r τ => σ = τ ∧ post r) (fun _ _ => False) := by
  refine mz_of (by decide) hl hj (Nat.le_of_ble_eq_true rfl) ?_
  intro p e s m args below meth c K hex hr
  unfold P_X3_differences at hp
  show Gz p l e r_X3_differences s m args below meth c D ad ty 4 0 0 (Ez below D ad ty nI0 (fun r τ => σ = τ ∧ post r) (fun _ _ => False) args s 0 0) σ 0 [(0, .int x0), (1, .int x1)] []
  refine gz_iconst K (v := (0 : Int32)) dX3_differences_0 (by decide) ?_
  refine gz_istore_n K [(2, .int (0 : Int32)), (0, .int x0), (1, .int x1)] dX3_differences_1 (by decide) rfl ?_
  refine gz_iconst K (v := (0 : Int32)) dX3_differences_2 (by decide) ?_
  refine gz_istore_n K [(3, .int (0 : Int32)), (2, .int (0 : Int32)), (0, .int x0), (1, .int x1)] dX3_differences_3 (by decide) rfl ?_
  refine gz_sub [2, 3, 1, 0] rfl ?_
  have ll_4 : ∀ (n_4 : Nat) (y0 : Int32) (y1 : Int32) (y2 : Int32) (y3 : Int32) , L_X3_differences_4 post  n_4 y0 y1 y2 y3 → Gz p l e r_X3_differences s m args below meth c D ad ty 4 0 0 (Ez below D ad ty nI0 (fun r τ => σ = τ ∧ post r) (fun _ _ => False) args s 0 0) σ 4 [(0, .int y0), (1, .int y1), (2, .int y2), (3, .int y3)] [] := by
    intro n_4; induction n_4 with
    | zero => intro y0 y1 y2 y3 hp; exact False.elim hp
    | succ n_4 ih_4 =>
      intro y0 y1 y2 y3 hp
      have hp : B_X3_differences_4 post  (L_X3_differences_4 post  n_4) y0 y1 y2 y3 := hp
      unfold B_X3_differences_4 at hp
      have bb_26 : ∀ (y0 : Int32) (y1 : Int32) (y2 : Int32) (y3 : Int32) , B_X3_differences_26 post (L_X3_differences_4 post  n_4) y0 y1 y2 y3 → Gz p l e r_X3_differences s m args below meth c D ad ty 4 0 0 (Ez below D ad ty nI0 (fun r τ => σ = τ ∧ post r) (fun _ _ => False) args s 0 0) σ 26 [(0, .int y0), (1, .int y1), (2, .int y2), (3, .int y3)] [] := by
        intro y0 y1 y2 y3 hp
        unfold B_X3_differences_26 at hp
        refine gz_iinc K (v := (y3 + 1)) [(3, .int (y3 + 1)), (0, .int y0), (1, .int y1), (2, .int y2)] dX3_differences_26 3 rfl (by first | rfl | decide) (by decide) rfl ?_
        refine gz_goto K 4 dX3_differences_29 (by decide) ?_
        refine gz_sub [1, 2, 3, 0] rfl ?_
        exact ih_4 y0 y1 y2 (y3 + 1)  hp
      refine gz_iload_n K dX3_differences_4 3 rfl ?_
      refine gz_bipush K (v := (7 : Int32)) dX3_differences_5 (by decide) ?_
      refine gz_icmp_ge K 32 dX3_differences_7 (by decide) (fun h => ?_) (fun h => ?_)
      · have hp := hp.1 h
        refine gz_iload_n K dX3_differences_32 2 rfl ?_
        exact gz_iret K hr ⟨rfl, hp⟩ dX3_differences_33 (Nat.le_of_ble_eq_true rfl) (Nat.le_of_ble_eq_true rfl)
      · have hp := hp.2 h
        refine gz_iload_n K dX3_differences_10 0 rfl ?_
        refine gz_iload_n K dX3_differences_11 3 rfl ?_
        refine gz_callS K hex (c_X3_imageOf K.2.2.2.2.2 K.2.2.1 hp) cf_X3_imageOf zq2_50 dX3_differences_12 rfl rfl (Nat.le_of_ble_eq_true rfl) ⟨Nat.le_of_ble_eq_true rfl, Nat.le_of_ble_eq_true rfl⟩ ⟨Nat.le_of_ble_eq_true rfl, Nat.le_of_ble_eq_true rfl⟩ (Nat.le_of_ble_eq_true rfl) (Nat.le_of_ble_eq_true rfl) (fun _ _ h => h.elim) (fun r12 τ hp => ?_)
        obtain ⟨rfl, hp⟩ := hp
        refine gz_norm (st' := [.int r12]) (cells' := 0) (slots' := 0) rfl rfl rfl ?_
        refine gz_iload_n K dX3_differences_15 1 rfl ?_
        refine gz_iload_n K dX3_differences_16 3 rfl ?_
        refine gz_callS K hex (c_X3_imageOf K.2.2.2.2.2 K.2.2.1 hp) cf_X3_imageOf zq2_50 dX3_differences_17 rfl rfl (Nat.le_of_ble_eq_true rfl) ⟨Nat.le_of_ble_eq_true rfl, Nat.le_of_ble_eq_true rfl⟩ ⟨Nat.le_of_ble_eq_true rfl, Nat.le_of_ble_eq_true rfl⟩ (Nat.le_of_ble_eq_true rfl) (Nat.le_of_ble_eq_true rfl) (fun _ _ h => h.elim) (fun r17 τ hp => ?_)
        obtain ⟨rfl, hp⟩ := hp
        refine gz_norm (st' := [.int r17, .int r12]) (cells' := 0) (slots' := 0) rfl rfl rfl ?_
        refine gz_icmp_eq K 26 dX3_differences_20 (by decide) (fun h => ?_) (fun h => ?_)
        · have hp := hp.1 h
          exact bb_26 y0 y1 y2 y3  hp
        · have hp := hp.2 h
          refine gz_iinc K (v := (y2 + 1)) [(2, .int (y2 + 1)), (0, .int y0), (1, .int y1), (3, .int y3)] dX3_differences_23 2 rfl (by first | rfl | decide) (by decide) rfl ?_
          refine gz_sub [1, 2, 0, 3] rfl ?_
          exact bb_26 y0 y1 (y2 + 1) y3  hp
  obtain ⟨n, hp⟩ := hp
  exact ll_4 n x0 x1 (0 : Int32) (0 : Int32)  hp
set_option maxRecDepth 100000 in
set_option maxHeartbeats 4000000 in
theorem c_X3_cycleOf {l : Launch} {D : va_G} {ad : Nat → Nat} {ty : Nat → ClassId} (hl : l.stackTraces = false) (hj : ∀ i j, i < 68 → j < 68 → ad i = ad j → i = j) {σ : Dz} {x0 : Int32} {x1 : Int32} {post : Int32 → Prop} (hp : P_X3_cycleOf x0 x1 post) : Mz l D ad ty yX3_cycleOf cX3_cycleOf 4 (some .int) r_X3_cycleOf nI0 σ [.int x0, .int x1] (fun r τ => σ = τ ∧ post r) (fun _ _ => False) := by
  refine mz_of (by decide) hl hj (Nat.le_of_ble_eq_true rfl) ?_
  intro p e s m args below meth c K hex hr
  unfold P_X3_cycleOf at hp
  show Gz p l e r_X3_cycleOf s m args below meth c D ad ty 4 0 0 (Ez below D ad ty nI0 (fun r τ => σ = τ ∧ post r) (fun _ _ => False) args s 0 0) σ 0 [(0, .int x0), (1, .int x1)] []
  refine gz_iconst K (v := (1 : Int32)) dX3_cycleOf_0 (by decide) ?_
  refine gz_istore_n K [(2, .int (1 : Int32)), (0, .int x0), (1, .int x1)] dX3_cycleOf_1 (by decide) rfl ?_
  refine gz_iload_n K dX3_cycleOf_2 1 rfl ?_
  refine gz_iload_n K dX3_cycleOf_3 2 rfl ?_
  refine gz_callS K hex (c_X3_imageOf K.2.2.2.2.2 K.2.2.1 hp) cf_X3_imageOf zq2_50 dX3_cycleOf_4 rfl rfl (Nat.le_of_ble_eq_true rfl) ⟨Nat.le_of_ble_eq_true rfl, Nat.le_of_ble_eq_true rfl⟩ ⟨Nat.le_of_ble_eq_true rfl, Nat.le_of_ble_eq_true rfl⟩ (Nat.le_of_ble_eq_true rfl) (Nat.le_of_ble_eq_true rfl) (fun _ _ h => h.elim) (fun r4 τ hp => ?_)
  obtain ⟨rfl, hp⟩ := hp
  refine gz_norm (st' := [.int r4]) (cells' := 0) (slots' := 0) rfl rfl rfl ?_
  refine gz_istore_n K [(3, .int r4), (2, .int (1 : Int32)), (0, .int x0), (1, .int x1)] dX3_cycleOf_7 (by decide) rfl ?_
  refine gz_sub [2, 3, 1, 0] rfl ?_
  have ll_8 : ∀ (n_8 : Nat) (y0 : Int32) (y1 : Int32) (y2 : Int32) (y3 : Int32) , L_X3_cycleOf_8 post  n_8 y0 y1 y2 y3 → Gz p l e r_X3_cycleOf s m args below meth c D ad ty 4 0 0 (Ez below D ad ty nI0 (fun r τ => σ = τ ∧ post r) (fun _ _ => False) args s 0 0) σ 8 [(0, .int y0), (1, .int y1), (2, .int y2), (3, .int y3)] [] := by
    intro n_8; induction n_8 with
    | zero => intro y0 y1 y2 y3 hp; exact False.elim hp
    | succ n_8 ih_8 =>
      intro y0 y1 y2 y3 hp
      have hp : B_X3_cycleOf_8 post  (L_X3_cycleOf_8 post  n_8) y0 y1 y2 y3 := hp
      unfold B_X3_cycleOf_8 at hp
      refine gz_iload_n K dX3_cycleOf_8 3 rfl ?_
      refine gz_iload_n K dX3_cycleOf_9 1 rfl ?_
      refine gz_icmp_eq K 31 dX3_cycleOf_10 (by decide) (fun h => ?_) (fun h => ?_)
      · have hp := hp.1 h
        refine gz_iload_n K dX3_cycleOf_31 2 rfl ?_
        exact gz_iret K hr ⟨rfl, hp⟩ dX3_cycleOf_32 (Nat.le_of_ble_eq_true rfl) (Nat.le_of_ble_eq_true rfl)
      · have hp := hp.2 h
        refine gz_iload_n K dX3_cycleOf_13 2 rfl ?_
        refine gz_bipush K (v := (7 : Int32)) dX3_cycleOf_14 (by decide) ?_
        refine gz_icmp_ge K 31 dX3_cycleOf_16 (by decide) (fun h => ?_) (fun h => ?_)
        · have hp := hp.1 h
          refine gz_iload_n K dX3_cycleOf_31 2 rfl ?_
          exact gz_iret K hr ⟨rfl, hp⟩ dX3_cycleOf_32 (Nat.le_of_ble_eq_true rfl) (Nat.le_of_ble_eq_true rfl)
        · have hp := hp.2 h
          refine gz_iload_n K dX3_cycleOf_19 0 rfl ?_
          refine gz_iload_n K dX3_cycleOf_20 3 rfl ?_
          refine gz_callS K hex (c_X3_imageOf K.2.2.2.2.2 K.2.2.1 hp) cf_X3_imageOf zq2_50 dX3_cycleOf_21 rfl rfl (Nat.le_of_ble_eq_true rfl) ⟨Nat.le_of_ble_eq_true rfl, Nat.le_of_ble_eq_true rfl⟩ ⟨Nat.le_of_ble_eq_true rfl, Nat.le_of_ble_eq_true rfl⟩ (Nat.le_of_ble_eq_true rfl) (Nat.le_of_ble_eq_true rfl) (fun _ _ h => h.elim) (fun r21 τ hp => ?_)
          obtain ⟨rfl, hp⟩ := hp
          refine gz_norm (st' := [.int r21]) (cells' := 0) (slots' := 0) rfl rfl rfl ?_
          refine gz_istore_n K [(3, .int r21), (0, .int y0), (1, .int y1), (2, .int y2)] dX3_cycleOf_24 (by decide) rfl ?_
          refine gz_iinc K (v := (y2 + 1)) [(2, .int (y2 + 1)), (3, .int r21), (0, .int y0), (1, .int y1)] dX3_cycleOf_25 3 rfl (by first | rfl | decide) (by decide) rfl ?_
          refine gz_goto K 8 dX3_cycleOf_28 (by decide) ?_
          refine gz_sub [2, 3, 0, 1] rfl ?_
          exact ih_8 y0 y1 (y2 + 1) r21  hp
  obtain ⟨n, hp⟩ := hp
  exact ll_8 n x0 x1 (1 : Int32) r4  hp
set_option maxRecDepth 100000 in
set_option maxHeartbeats 4000000 in
theorem c_X3_orderOf {l : Launch} {D : va_G} {ad : Nat → Nat} {ty : Nat → ClassId} (hl : l.stackTraces = false) (hj : ∀ i j, i < 68 → j < 68 → ad i = ad j → i = j) {σ : Dz} {x0 : Int32} {post : Int32 → Prop} (hp : P_X3_orderOf x0 post) : Mz l D ad ty yX3_orderOf cX3_orderOf 3 (some .int) r_X3_orderOf nI0 σ [.int x0] (fun r τ => σ = τ ∧ post r) (fun _ _ => False) := by
  refine mz_of (by decide) hl hj (Nat.le_of_ble_eq_true rfl) ?_
  intro p e s m args below meth c K hex hr
  unfold P_X3_orderOf at hp
  show Gz p l e r_X3_orderOf s m args below meth c D ad ty 3 0 0 (Ez below D ad ty nI0 (fun r τ => σ = τ ∧ post r) (fun _ _ => False) args s 0 0) σ 0 [(0, .int x0)] []
  refine gz_iconst K (v := (1 : Int32)) dX3_orderOf_0 (by decide) ?_
  refine gz_istore_n K [(1, .int (1 : Int32)), (0, .int x0)] dX3_orderOf_1 (by decide) rfl ?_
  refine gz_iload_n K dX3_orderOf_2 1 rfl ?_
  refine gz_istore_n K [(2, .int x0), (1, .int (1 : Int32)), (0, .int x0)] dX3_orderOf_3 (by decide) rfl ?_
  refine gz_sub [2, 1, 0] rfl ?_
  have ll_4 : ∀ (n_4 : Nat) (y0 : Int32) (y1 : Int32) (y2 : Int32) , L_X3_orderOf_4 post  n_4 y0 y1 y2 → Gz p l e r_X3_orderOf s m args below meth c D ad ty 3 0 0 (Ez below D ad ty nI0 (fun r τ => σ = τ ∧ post r) (fun _ _ => False) args s 0 0) σ 4 [(0, .int y0), (1, .int y1), (2, .int y2)] [] := by
    intro n_4; induction n_4 with
    | zero => intro y0 y1 y2 hp; exact False.elim hp
    | succ n_4 ih_4 =>
      intro y0 y1 y2 hp
      have hp : B_X3_orderOf_4 post  (L_X3_orderOf_4 post  n_4) y0 y1 y2 := hp
      unfold B_X3_orderOf_4 at hp
      refine gz_iload_n K dX3_orderOf_4 2 rfl ?_
      refine gz_ldc K zq4_61 dX3_orderOf_5 ?_
      refine gz_icmp_eq K 28 dX3_orderOf_7 (by decide) (fun h => ?_) (fun h => ?_)
      · have hp := hp.1 h
        refine gz_iload_n K dX3_orderOf_28 1 rfl ?_
        exact gz_iret K hr ⟨rfl, hp⟩ dX3_orderOf_29 (Nat.le_of_ble_eq_true rfl) (Nat.le_of_ble_eq_true rfl)
      · have hp := hp.2 h
        refine gz_iload_n K dX3_orderOf_10 1 rfl ?_
        refine gz_bipush K (v := (12 : Int32)) dX3_orderOf_11 (by decide) ?_
        refine gz_icmp_ge K 28 dX3_orderOf_13 (by decide) (fun h => ?_) (fun h => ?_)
        · have hp := hp.1 h
          refine gz_iload_n K dX3_orderOf_28 1 rfl ?_
          exact gz_iret K hr ⟨rfl, hp⟩ dX3_orderOf_29 (Nat.le_of_ble_eq_true rfl) (Nat.le_of_ble_eq_true rfl)
        · have hp := hp.2 h
          refine gz_iload_n K dX3_orderOf_16 2 rfl ?_
          refine gz_iload_n K dX3_orderOf_17 0 rfl ?_
          refine gz_callS K hex (c_X3_then K.2.2.2.2.2 K.2.2.1 hp) cf_X3_then zq4_62 dX3_orderOf_18 rfl rfl (Nat.le_of_ble_eq_true rfl) ⟨Nat.le_of_ble_eq_true rfl, Nat.le_of_ble_eq_true rfl⟩ ⟨Nat.le_of_ble_eq_true rfl, Nat.le_of_ble_eq_true rfl⟩ (Nat.le_of_ble_eq_true rfl) (Nat.le_of_ble_eq_true rfl) (fun _ _ h => h.elim) (fun r18 τ hp => ?_)
          obtain ⟨rfl, hp⟩ := hp
          refine gz_norm (st' := [.int r18]) (cells' := 0) (slots' := 0) rfl rfl rfl ?_
          refine gz_istore_n K [(2, .int r18), (0, .int y0), (1, .int y1)] dX3_orderOf_21 (by decide) rfl ?_
          refine gz_iinc K (v := (y1 + 1)) [(1, .int (y1 + 1)), (2, .int r18), (0, .int y0)] dX3_orderOf_22 2 rfl (by first | rfl | decide) (by decide) rfl ?_
          refine gz_goto K 4 dX3_orderOf_25 (by decide) ?_
          refine gz_sub [2, 0, 1] rfl ?_
          exact ih_4 y0 (y1 + 1) r18  hp
  obtain ⟨n, hp⟩ := hp
  exact ll_4 n x0 (1 : Int32) x0  hp
set_option maxRecDepth 100000 in
set_option maxHeartbeats 4000000 in
theorem c_X3_hasOddParity {l : Launch} {D : va_G} {ad : Nat → Nat} {ty : Nat → ClassId} (hl : l.stackTraces = false) (hj : ∀ i j, i < 68 → j < 68 → ad i = ad j → i = j) {σ : Dz} {x0 : Int32} {post : Int32 → Prop} (hp : P_X3_hasOddParity x0 post) : Mz l D ad ty yX3_hasOddParity cX3_hasOddParity 5 (some .boolean) r_X3_hasOddParity nI0 σ [.int x0] (fun r τ => σ = τ ∧ post r) (fun _ _ => False) := by
  refine mz_of (by decide) hl hj (Nat.le_of_ble_eq_true rfl) ?_
  intro p e s m args below meth c K hex hr
  unfold P_X3_hasOddParity at hp
  show Gz p l e r_X3_hasOddParity s m args below meth c D ad ty 5 0 0 (Ez below D ad ty nI0 (fun r τ => σ = τ ∧ post r) (fun _ _ => False) args s 0 0) σ 0 [(0, .int x0)] []
  refine gz_iconst K (v := (0 : Int32)) dX3_hasOddParity_0 (by decide) ?_
  refine gz_istore_n K [(1, .int (0 : Int32)), (0, .int x0)] dX3_hasOddParity_1 (by decide) rfl ?_
  refine gz_iconst K (v := (0 : Int32)) dX3_hasOddParity_2 (by decide) ?_
  refine gz_istore_n K [(2, .int (0 : Int32)), (1, .int (0 : Int32)), (0, .int x0)] dX3_hasOddParity_3 (by decide) rfl ?_
  refine gz_iconst K (v := (0 : Int32)) dX3_hasOddParity_4 (by decide) ?_
  refine gz_istore_n K [(3, .int (0 : Int32)), (2, .int (0 : Int32)), (1, .int (0 : Int32)), (0, .int x0)] dX3_hasOddParity_5 (by decide) rfl ?_
  refine gz_sub [3, 2, 1, 0] rfl ?_
  have ll_6 : ∀ (n_6 : Nat) (y0 : Int32) (y1 : Int32) (y2 : Int32) (y3 : Int32) , L_X3_hasOddParity_6 post  n_6 y0 y1 y2 y3 → Gz p l e r_X3_hasOddParity s m args below meth c D ad ty 5 0 0 (Ez below D ad ty nI0 (fun r τ => σ = τ ∧ post r) (fun _ _ => False) args s 0 0) σ 6 [(0, .int y0), (1, .int y1), (2, .int y2), (3, .int y3)] [] := by
    intro n_6; induction n_6 with
    | zero => intro y0 y1 y2 y3 hp; exact False.elim hp
    | succ n_6 ih_6 =>
      intro y0 y1 y2 y3 hp
      have hp : B_X3_hasOddParity_6 post  (L_X3_hasOddParity_6 post  n_6) y0 y1 y2 y3 := hp
      unfold B_X3_hasOddParity_6 at hp
      refine gz_iload_n K dX3_hasOddParity_6 3 rfl ?_
      refine gz_bipush K (v := (7 : Int32)) dX3_hasOddParity_7 (by decide) ?_
      refine gz_icmp_ge K 42 dX3_hasOddParity_9 (by decide) (fun h => ?_) (fun h => ?_)
      · have hp := hp.1 h
        refine gz_iload_n K dX3_hasOddParity_42 2 rfl ?_
        refine gz_iconst K (v := (1 : Int32)) dX3_hasOddParity_43 (by decide) ?_
        refine gz_iand K dX3_hasOddParity_44 ?_
        refine gz_iconst K (v := (1 : Int32)) dX3_hasOddParity_45 (by decide) ?_
        refine gz_icmp_ne K 53 dX3_hasOddParity_46 (by decide) (fun h => ?_) (fun h => ?_)
        · have hp := hp.1 h
          refine gz_iconst K (v := (0 : Int32)) dX3_hasOddParity_53 (by decide) ?_
          exact gz_zret K hr (by decide) ⟨rfl, hp⟩ dX3_hasOddParity_54 (Nat.le_of_ble_eq_true rfl) (Nat.le_of_ble_eq_true rfl)
        · have hp := hp.2 h
          refine gz_iconst K (v := (1 : Int32)) dX3_hasOddParity_49 (by decide) ?_
          refine gz_goto K 54 dX3_hasOddParity_50 (by decide) ?_
          exact gz_zret K hr (by decide) ⟨rfl, hp⟩ dX3_hasOddParity_54 (Nat.le_of_ble_eq_true rfl) (Nat.le_of_ble_eq_true rfl)
      · have hp := hp.2 h
        refine gz_iload_n K dX3_hasOddParity_12 0 rfl ?_
        refine gz_iload_n K dX3_hasOddParity_13 3 rfl ?_
        refine gz_callS K hex (c_X3_imageOf K.2.2.2.2.2 K.2.2.1 hp) cf_X3_imageOf zq2_50 dX3_hasOddParity_14 rfl rfl (Nat.le_of_ble_eq_true rfl) ⟨Nat.le_of_ble_eq_true rfl, Nat.le_of_ble_eq_true rfl⟩ ⟨Nat.le_of_ble_eq_true rfl, Nat.le_of_ble_eq_true rfl⟩ (Nat.le_of_ble_eq_true rfl) (Nat.le_of_ble_eq_true rfl) (fun _ _ h => h.elim) (fun r14 τ hp => ?_)
        obtain ⟨rfl, hp⟩ := hp
        refine gz_norm (st' := [.int r14]) (cells' := 0) (slots' := 0) rfl rfl rfl ?_
        refine gz_istore K [(4, .int r14), (0, .int y0), (1, .int y1), (2, .int y2), (3, .int y3)] dX3_hasOddParity_17 (by decide) rfl ?_
        refine gz_iload_n K dX3_hasOddParity_19 3 rfl ?_
        refine gz_iload_n K dX3_hasOddParity_20 2 rfl ?_
        refine gz_iload K dX3_hasOddParity_21 0 rfl ?_
        refine gz_iushr K dX3_hasOddParity_23 ?_
        refine gz_callS K hex (c_J6_bitCount_0f7a4 K.2.2.2.2.2 K.2.2.1 hp) cf_J6_bitCount_0f7a4 zq2_53 dX3_hasOddParity_24 rfl rfl (Nat.le_of_ble_eq_true rfl) ⟨Nat.le_of_ble_eq_true rfl, Nat.le_of_ble_eq_true rfl⟩ ⟨Nat.le_of_ble_eq_true rfl, Nat.le_of_ble_eq_true rfl⟩ (Nat.le_of_ble_eq_true rfl) (Nat.le_of_ble_eq_true rfl) (fun _ _ h => h.elim) (fun r24 τ hp => ?_)
        obtain ⟨rfl, hp⟩ := hp
        refine gz_norm (st' := [.int r24, .int y2]) (cells' := 0) (slots' := 0) rfl rfl rfl ?_
        refine gz_iadd K dX3_hasOddParity_27 ?_
        refine gz_istore_n K [(2, .int (y2 + r24)), (4, .int r14), (0, .int y0), (1, .int y1), (3, .int y3)] dX3_hasOddParity_28 (by decide) rfl ?_
        refine gz_iload_n K dX3_hasOddParity_29 3 rfl ?_
        refine gz_iconst K (v := (1 : Int32)) dX3_hasOddParity_30 (by decide) ?_
        refine gz_iload K dX3_hasOddParity_31 1 rfl ?_
        refine gz_ishl K dX3_hasOddParity_33 ?_
        refine gz_ior K dX3_hasOddParity_34 ?_
        refine gz_istore_n K [(1, .int (y1 ||| ((1 : Int32) <<< (r14 &&& 31)))), (2, .int (y2 + r24)), (4, .int r14), (0, .int y0), (3, .int y3)] dX3_hasOddParity_35 (by decide) rfl ?_
        refine gz_iinc K (v := (y3 + 1)) [(3, .int (y3 + 1)), (1, .int (y1 ||| ((1 : Int32) <<< (r14 &&& 31)))), (2, .int (y2 + r24)), (4, .int r14), (0, .int y0)] dX3_hasOddParity_36 4 rfl (by first | rfl | decide) (by decide) rfl ?_
        refine gz_goto K 6 dX3_hasOddParity_39 (by decide) ?_
        refine gz_sub [4, 1, 2, 0] rfl ?_
        exact ih_6 y0 (y1 ||| ((1 : Int32) <<< (r14 &&& 31))) (y2 + r24) (y3 + 1)  hp
  obtain ⟨n, hp⟩ := hp
  exact ll_6 n x0 (0 : Int32) (0 : Int32) (0 : Int32)  hp
set_option maxRecDepth 100000 in
set_option maxHeartbeats 4000000 in
theorem c_X4_clear {l : Launch} {D : va_G} {ad : Nat → Nat} {ty : Nat → ClassId} (hl : l.stackTraces = false) (hj : ∀ i j, i < 68 → j < 68 → ad i = ad j → i = j) {σ : Dz} {k : Nat} (hk : isS k) {post : Dz → Prop} (hp : P_X4_clear σ k post) : Mz l D ad ty yX4_clear cX4_clear 2 none r_X4_clear nV0 σ [.ref (ad k)] (fun _ τ => post τ) (fun _ _ => False) := by
  refine mz_of (by decide) hl hj (Nat.le_of_ble_eq_true rfl) ?_
  intro p e s m args below meth c K hex hr
  unfold P_X4_clear at hp
  show Gz p l e r_X4_clear s m args below meth c D ad ty 2 0 0 (Ez below D ad ty nV0 (fun _ τ => post τ) (fun _ _ => False) args s 0 0) σ 0 [(0, .ref (ad k))] []
  refine gz_iconst K (v := (0 : Int32)) dX4_clear_0 (by decide) ?_
  refine gz_istore_n K [(1, .int (0 : Int32)), (0, .ref (ad k))] dX4_clear_1 (by decide) rfl ?_
  refine gz_sub [1, 0] rfl ?_
  have ll_2 : ∀ (n_2 : Nat) (σ : Dz) (y1 : Int32) , L_X4_clear_2 k post  n_2 σ y1 → Gz p l e r_X4_clear s m args below meth c D ad ty 2 0 0 (Ez below D ad ty nV0 (fun _ τ => post τ) (fun _ _ => False) args s 0 0) σ 2 [(0, .ref (ad k)), (1, .int y1)] [] := by
    intro n_2; induction n_2 with
    | zero => intro σ y1 hp; exact False.elim hp
    | succ n_2 ih_2 =>
      intro σ y1 hp
      have hp : B_X4_clear_2 k post  (L_X4_clear_2 k post  n_2) σ y1 := hp
      unfold B_X4_clear_2 at hp
      refine gz_iload_n K dX4_clear_2 1 rfl ?_
      refine gz_bipush K (v := (10 : Int32)) dX4_clear_3 (by decide) ?_
      refine gz_icmp_ge K 22 dX4_clear_5 (by decide) (fun h => ?_) (fun h => ?_)
      · have hp := hp.1 h
        refine gz_aload_n K dX4_clear_22 0 rfl ?_
        refine gz_iconst K (v := (0 : Int32)) dX4_clear_23 (by decide) ?_
        refine gz_put K (x := (0 : Int32)) (ceS hk).1 ((ceS hk).2 _ _ _ _ _ _) rfl inz_X4 tyX4 tyX4_ok nmX4 2 (by decide) zq1_189 rfl (tyX4_ok _ (by decide)) rfl rfl (Nat.le_of_ble_eq_true rfl) (peX4_2 hk) dX4_clear_24 ?_
        refine gz_aload_n K dX4_clear_27 0 rfl ?_
        refine gz_ldc K zq1_166 dX4_clear_28 ?_
        refine gz_put K (x := (1754760 : Int32)) (ceS hk).1 ((ceS hk).2 _ _ _ _ _ _) rfl inz_X4 tyX4 tyX4_ok nmX4 3 (by decide) zq1_190 rfl (tyX4_ok _ (by decide)) rfl rfl (Nat.le_of_ble_eq_true rfl) (peX4_3 hk) dX4_clear_30 ?_
        refine gz_iconst K (v := (0 : Int32)) dX4_clear_33 (by decide) ?_
        refine gz_istore_n K [(1, .int (0 : Int32)), (0, .ref (ad k))] dX4_clear_34 (by decide) rfl ?_
        refine gz_sub [1, 0] rfl ?_
        have ll_35 : ∀ (n_35 : Nat) (σ : Dz) (y1 : Int32) , L_X4_clear_35 k post  n_35 σ y1 → Gz p l e r_X4_clear s m args below meth c D ad ty 2 0 0 (Ez below D ad ty nV0 (fun _ τ => post τ) (fun _ _ => False) args s 0 0) σ 35 [(0, .ref (ad k)), (1, .int y1)] [] := by
          intro n_35; induction n_35 with
          | zero => intro σ y1 hp; exact False.elim hp
          | succ n_35 ih_35 =>
            intro σ y1 hp
            have hp : B_X4_clear_35 k post  (L_X4_clear_35 k post  n_35) σ y1 := hp
            unfold B_X4_clear_35 at hp
            refine gz_iload_n K dX4_clear_35 1 rfl ?_
            refine gz_iconst K (v := (4 : Int32)) dX4_clear_36 (by decide) ?_
            refine gz_icmp_ge K 55 dX4_clear_37 (by decide) (fun h => ?_) (fun h => ?_)
            · have hp := hp.1 h
              exact gz_vret K hr hp dX4_clear_55 (Nat.le_of_ble_eq_true rfl) (Nat.le_of_ble_eq_true rfl)
            · have hp := hp.2 h
              refine gz_aload_n K dX4_clear_40 0 rfl ?_
              refine gz_get K (v := .ref (ad (k + 2))) (ceS hk).1 ((ceS hk).2 _ _ _ _ _ _) rfl inz_X4 1 (by decide) zq1_188 rfl dX4_clear_41 ?_
              refine gz_iload_n K dX4_clear_44 1 rfl ?_
              obtain ⟨h45, hp⟩ := hp
              refine gz_aald K (cwS2 hk).1 ((cwS2 hk).2 _ _ _ _ _ _) h45 dX4_clear_45 ?_
              refine gz_callV K hex (c_X6_clear K.2.2.2.2.2 K.2.2.1 (isW_S hk (vp_lt h45)) hp) cf_X6_clear zq1_183 (ceW (isW_S hk (vp_lt h45))).1 ((ceW (isW_S hk (vp_lt h45))).2 _ _ _ _ _ _) rfl dX4_clear_46 rfl rfl (Nat.le_of_ble_eq_true rfl) ⟨Nat.le_of_ble_eq_true rfl, Nat.le_of_ble_eq_true rfl⟩ ⟨Nat.le_of_ble_eq_true rfl, Nat.le_of_ble_eq_true rfl⟩ (Nat.le_of_ble_eq_true rfl) (Nat.le_of_ble_eq_true rfl) (fun _ _ h => h.elim) (fun _ τ46 hp => ?_)
              refine gz_norm (st' := []) (cells' := 0) (slots' := 0) rfl rfl rfl ?_
              refine gz_iinc K (v := (y1 + 1)) [(1, .int (y1 + 1)), (0, .ref (ad k))] dX4_clear_49 1 rfl (by first | rfl | decide) (by decide) rfl ?_
              refine gz_goto K 35 dX4_clear_52 (by decide) ?_
              refine gz_sub [1, 0] rfl ?_
              exact ih_35 τ46 (y1 + 1)  hp
        obtain ⟨n, hp⟩ := hp
        exact ll_35 n (sz_i (sz_i σ k 2 (0 : Int32)) k 3 (1754760 : Int32)) (0 : Int32)  hp
      · have hp := hp.2 h
        refine gz_aload_n K dX4_clear_8 0 rfl ?_
        refine gz_get K (v := .ref (ad (k + 1))) (ceS hk).1 ((ceS hk).2 _ _ _ _ _ _) rfl inz_X4 0 (by decide) zq1_187 rfl dX4_clear_9 ?_
        refine gz_iload_n K dX4_clear_12 1 rfl ?_
        refine gz_ldc K zq1_166 dX4_clear_13 ?_
        obtain ⟨h, hp⟩ := hp
        refine gz_iast K (x := (1754760 : Int32)) (caS hk).1 ((caS hk).2 ad ty) h dX4_clear_15 ?_
        refine gz_iinc K (v := (y1 + 1)) [(1, .int (y1 + 1)), (0, .ref (ad k))] dX4_clear_16 1 rfl (by first | rfl | decide) (by decide) rfl ?_
        refine gz_goto K 2 dX4_clear_19 (by decide) ?_
        refine gz_sub [1, 0] rfl ?_
        exact ih_2 (sz_i σ (k + 1) (y1).toNatClampNeg (1754760 : Int32)) (y1 + 1)  hp
  obtain ⟨n, hp⟩ := hp
  exact ll_2 n σ (0 : Int32)  hp
set_option maxRecDepth 100000 in
set_option maxHeartbeats 4000000 in
theorem c_X6_addPart {l : Launch} {D : va_G} {ad : Nat → Nat} {ty : Nat → ClassId} (hl : l.stackTraces = false) (hj : ∀ i j, i < 68 → j < 68 → ad i = ad j → i = j) {σ : Dz} {w : Nat} {w1 : Nat} (hw : isW w) (h1 : isW w1) {x2 : Int32} {x3 : Int32} {post : Int32 → Dz → Prop} (hp : P_X6_addPart σ w w1 x2 x3 post) : Mz l D ad ty yX6_addPart cX6_addPart 6 (some .boolean) r_X6_addPart nI0 σ [.ref (ad w), .ref (ad w1), .int x2, .int x3] post (fun _ _ => False) := by
  refine mz_of (by decide) hl hj (Nat.le_of_ble_eq_true rfl) ?_
  intro p e s m args below meth c K hex hr
  unfold P_X6_addPart at hp
  show Gz p l e r_X6_addPart s m args below meth c D ad ty 6 0 0 (Ez below D ad ty nI0 post (fun _ _ => False) args s 0 0) σ 0 [(0, .ref (ad w)), (1, .ref (ad w1)), (2, .int x2), (3, .int x3)] []
  refine gz_iconst K (v := (1 : Int32)) dX6_addPart_0 (by decide) ?_
  refine gz_istore K [(4, .int (1 : Int32)), (0, .ref (ad w)), (1, .ref (ad w1)), (2, .int x2), (3, .int x3)] dX6_addPart_1 (by decide) rfl ?_
  refine gz_iload_n K dX6_addPart_3 3 rfl ?_
  refine gz_istore K [(5, .int x2), (4, .int (1 : Int32)), (0, .ref (ad w)), (1, .ref (ad w1)), (2, .int x2), (3, .int x3)] dX6_addPart_4 (by decide) rfl ?_
  refine gz_sub [2, 3, 5, 1, 0] rfl ?_
  have ll_6 : ∀ (n_6 : Nat) (σ : Dz) (y3 : Int32) (y4 : Int32) (y5 : Int32) , L_X6_addPart_6 w w1 post  n_6 σ y3 y4 y5 → Gz p l e r_X6_addPart s m args below meth c D ad ty 6 0 0 (Ez below D ad ty nI0 post (fun _ _ => False) args s 0 0) σ 6 [(0, .ref (ad w)), (1, .ref (ad w1)), (3, .int y3), (4, .int y4), (5, .int y5)] [] := by
    intro n_6; induction n_6 with
    | zero => intro σ y3 y4 y5 hp; exact False.elim hp
    | succ n_6 ih_6 =>
      intro σ y3 y4 y5 hp
      have hp : B_X6_addPart_6 w w1 post  (L_X6_addPart_6 w w1 post  n_6) σ y3 y4 y5 := hp
      unfold B_X6_addPart_6 at hp
      refine gz_iload K dX6_addPart_6 3 rfl ?_
      refine gz_if_eq K 35 dX6_addPart_8 (by decide) (fun h => ?_) (fun h => ?_)
      · have hp := hp.1 h
        refine gz_iload K dX6_addPart_35 3 rfl ?_
        exact gz_zret K hr (nB hp.1) hp.2 dX6_addPart_37 (Nat.le_of_ble_eq_true rfl) (Nat.le_of_ble_eq_true rfl)
      · have hp := hp.2 h
        refine gz_iload K dX6_addPart_11 4 rfl ?_
        refine gz_iload_n K dX6_addPart_13 2 rfl ?_
        refine gz_icmp_ge K 35 dX6_addPart_14 (by decide) (fun h => ?_) (fun h => ?_)
        · have hp := hp.1 h
          refine gz_iload K dX6_addPart_35 3 rfl ?_
          exact gz_zret K hr (nB hp.1) hp.2 dX6_addPart_37 (Nat.le_of_ble_eq_true rfl) (Nat.le_of_ble_eq_true rfl)
        · have hp := hp.2 h
          refine gz_aload_n K dX6_addPart_17 0 rfl ?_
          refine gz_aload_n K dX6_addPart_18 1 rfl ?_
          refine gz_iload K dX6_addPart_19 4 rfl ?_
          refine gz_callV K hex (c_X6_at K.2.2.2.2.2 K.2.2.1 h1 hp) cf_X6_at zq2_115 (ceW h1).1 ((ceW h1).2 _ _ _ _ _ _) rfl dX6_addPart_21 rfl rfl (Nat.le_of_ble_eq_true rfl) ⟨Nat.le_of_ble_eq_true rfl, Nat.le_of_ble_eq_true rfl⟩ ⟨Nat.le_of_ble_eq_true rfl, Nat.le_of_ble_eq_true rfl⟩ (Nat.le_of_ble_eq_true rfl) (Nat.le_of_ble_eq_true rfl) (fun _ _ h => h.elim) (fun r21 τ hp => ?_)
          obtain ⟨rfl, hp⟩ := hp
          refine gz_norm (st' := [.int r21, .ref (ad w)]) (cells' := 0) (slots' := 0) rfl rfl rfl ?_
          refine gz_callV K hex (c_X6_add K.2.2.2.2.2 K.2.2.1 hw hp) cf_X6_add zq2_119 (ceW hw).1 ((ceW hw).2 _ _ _ _ _ _) rfl dX6_addPart_24 rfl rfl (Nat.le_of_ble_eq_true rfl) ⟨Nat.le_of_ble_eq_true rfl, Nat.le_of_ble_eq_true rfl⟩ ⟨Nat.le_of_ble_eq_true rfl, Nat.le_of_ble_eq_true rfl⟩ (Nat.le_of_ble_eq_true rfl) (Nat.le_of_ble_eq_true rfl) (fun _ _ h => h.elim) (fun r24 τ24 hp => ?_)
          refine gz_norm (st' := [.int r24]) (cells' := 0) (slots' := 0) rfl rfl rfl ?_
          refine gz_istore K [(4, .int r24), (0, .ref (ad w)), (1, .ref (ad w1)), (3, .int y3), (5, .int y5)] dX6_addPart_27 (by decide) rfl ?_
          refine gz_iinc K (v := (y5 + 1)) [(5, .int (y5 + 1)), (4, .int r24), (0, .ref (ad w)), (1, .ref (ad w1)), (3, .int y3)] dX6_addPart_29 4 rfl (by first | rfl | decide) (by decide) rfl ?_
          refine gz_goto K 6 dX6_addPart_32 (by decide) ?_
          refine gz_sub [2, 3, 4, 1, 0] rfl ?_
          exact ih_6 τ24 y3 r24 (y5 + 1)  hp
  obtain ⟨n, hp⟩ := hp
  exact ll_6 n σ x3 (1 : Int32) x2  hp
set_option maxRecDepth 100000 in
set_option maxHeartbeats 4000000 in
theorem c_X6_addAll {l : Launch} {D : va_G} {ad : Nat → Nat} {ty : Nat → ClassId} (hl : l.stackTraces = false) (hj : ∀ i j, i < 68 → j < 68 → ad i = ad j → i = j) {σ : Dz} {w : Nat} {w1 : Nat} (hw : isW w) (h1 : isW w1) {post : Int32 → Dz → Prop} (hp : P_X6_addAll σ w w1 post) : Mz l D ad ty yX6_addAll cX6_addAll 2 (some .boolean) r_X6_addAll nI0 σ [.ref (ad w), .ref (ad w1)] post (fun _ _ => False) := by
  refine mz_of (by decide) hl hj (Nat.le_of_ble_eq_true rfl) ?_
  intro p e s m args below meth c K hex hr
  unfold P_X6_addAll at hp
  show Gz p l e r_X6_addAll s m args below meth c D ad ty 2 0 0 (Ez below D ad ty nI0 post (fun _ _ => False) args s 0 0) σ 0 [(0, .ref (ad w)), (1, .ref (ad w1))] []
  refine gz_aload_n K dX6_addAll_0 0 rfl ?_
  refine gz_aload_n K dX6_addAll_1 1 rfl ?_
  refine gz_iconst K (v := (0 : Int32)) dX6_addAll_2 (by decide) ?_
  refine gz_aload_n K dX6_addAll_3 1 rfl ?_
  refine gz_callV K hex (c_X6_length K.2.2.2.2.2 K.2.2.1 h1 hp) cf_X6_length zq2_107 (ceW h1).1 ((ceW h1).2 _ _ _ _ _ _) rfl dX6_addAll_4 rfl rfl (Nat.le_of_ble_eq_true rfl) ⟨Nat.le_of_ble_eq_true rfl, Nat.le_of_ble_eq_true rfl⟩ ⟨Nat.le_of_ble_eq_true rfl, Nat.le_of_ble_eq_true rfl⟩ (Nat.le_of_ble_eq_true rfl) (Nat.le_of_ble_eq_true rfl) (fun _ _ h => h.elim) (fun r4 τ hp => ?_)
  obtain ⟨rfl, hp⟩ := hp
  refine gz_norm (st' := [.int r4, .int (0 : Int32), .ref (ad w1), .ref (ad w)]) (cells' := 0) (slots' := 0) rfl rfl rfl ?_
  refine gz_callV K hex (c_X6_addPart K.2.2.2.2.2 K.2.2.1 hw h1 hp) cf_X6_addPart zq2_111 (ceW hw).1 ((ceW hw).2 _ _ _ _ _ _) rfl dX6_addAll_7 rfl rfl (Nat.le_of_ble_eq_true rfl) ⟨Nat.le_of_ble_eq_true rfl, Nat.le_of_ble_eq_true rfl⟩ ⟨Nat.le_of_ble_eq_true rfl, Nat.le_of_ble_eq_true rfl⟩ (Nat.le_of_ble_eq_true rfl) (Nat.le_of_ble_eq_true rfl) (fun _ _ h => h.elim) (fun r7 τ7 hp => ?_)
  refine gz_norm (st' := [.int r7]) (cells' := 0) (slots' := 0) rfl rfl rfl ?_
  exact gz_zret K hr (nB hp.1) hp.2 dX6_addAll_10 (Nat.le_of_ble_eq_true rfl) (Nat.le_of_ble_eq_true rfl)
set_option maxRecDepth 100000 in
set_option maxHeartbeats 4000000 in
theorem c_X6_copyFrom {l : Launch} {D : va_G} {ad : Nat → Nat} {ty : Nat → ClassId} (hl : l.stackTraces = false) (hj : ∀ i j, i < 68 → j < 68 → ad i = ad j → i = j) {σ : Dz} {w : Nat} {w1 : Nat} (hw : isW w) (h1 : isW w1) {post : Dz → Prop} (hp : P_X6_copyFrom σ w w1 post) : Mz l D ad ty yX6_copyFrom cX6_copyFrom 2 none r_X6_copyFrom nV0 σ [.ref (ad w), .ref (ad w1)] (fun _ τ => post τ) (fun _ _ => False) := by
  refine mz_of (by decide) hl hj (Nat.le_of_ble_eq_true rfl) ?_
  intro p e s m args below meth c K hex hr
  unfold P_X6_copyFrom at hp
  show Gz p l e r_X6_copyFrom s m args below meth c D ad ty 2 0 0 (Ez below D ad ty nV0 (fun _ τ => post τ) (fun _ _ => False) args s 0 0) σ 0 [(0, .ref (ad w)), (1, .ref (ad w1))] []
  refine gz_aload_n K dX6_copyFrom_0 0 rfl ?_
  refine gz_iconst K (v := (0 : Int32)) dX6_copyFrom_1 (by decide) ?_
  refine gz_put K (x := (0 : Int32)) (ceW hw).1 ((ceW hw).2 _ _ _ _ _ _) rfl inz_X6 tyX6 tyX6_ok nmX6 1 (by decide) zq1_173 rfl (tyX6_ok _ (by decide)) rfl rfl (Nat.le_of_ble_eq_true rfl) (peX6_1 hw) dX6_copyFrom_2 ?_
  refine gz_aload_n K dX6_copyFrom_5 0 rfl ?_
  refine gz_aload_n K dX6_copyFrom_6 1 rfl ?_
  refine gz_callV K hex (c_X6_addAll K.2.2.2.2.2 K.2.2.1 hw h1 hp) cf_X6_addAll zq2_103 (ceW hw).1 ((ceW hw).2 _ _ _ _ _ _) rfl dX6_copyFrom_7 rfl rfl (Nat.le_of_ble_eq_true rfl) ⟨Nat.le_of_ble_eq_true rfl, Nat.le_of_ble_eq_true rfl⟩ ⟨Nat.le_of_ble_eq_true rfl, Nat.le_of_ble_eq_true rfl⟩ (Nat.le_of_ble_eq_true rfl) (Nat.le_of_ble_eq_true rfl) (fun _ _ h => h.elim) (fun r7 τ7 hp => ?_)
  refine gz_norm (st' := [.int r7]) (cells' := 0) (slots' := 0) rfl rfl rfl ?_
  refine gz_pop K dX6_copyFrom_10 rfl ?_
  exact gz_vret K hr hp dX6_copyFrom_11 (Nat.le_of_ble_eq_true rfl) (Nat.le_of_ble_eq_true rfl)
set_option maxRecDepth 100000 in
set_option maxHeartbeats 4000000 in
theorem c_X4_copyFrom {l : Launch} {D : va_G} {ad : Nat → Nat} {ty : Nat → ClassId} (hl : l.stackTraces = false) (hj : ∀ i j, i < 68 → j < 68 → ad i = ad j → i = j) {σ : Dz} {k : Nat} {k1 : Nat} (hk : isS k) (h1 : isS k1) {post : Dz → Prop} (hp : P_X4_copyFrom σ k k1 post) : Mz l D ad ty yX4_copyFrom cX4_copyFrom 3 none r_X4_copyFrom nV0 σ [.ref (ad k), .ref (ad k1)] (fun _ τ => post τ) (fun _ _ => False) := by
  refine mz_of (by decide) hl hj (Nat.le_of_ble_eq_true rfl) ?_
  intro p e s m args below meth c K hex hr
  unfold P_X4_copyFrom at hp
  show Gz p l e r_X4_copyFrom s m args below meth c D ad ty 3 0 0 (Ez below D ad ty nV0 (fun _ τ => post τ) (fun _ _ => False) args s 0 0) σ 0 [(0, .ref (ad k)), (1, .ref (ad k1))] []
  refine gz_iconst K (v := (0 : Int32)) dX4_copyFrom_0 (by decide) ?_
  refine gz_istore_n K [(2, .int (0 : Int32)), (0, .ref (ad k)), (1, .ref (ad k1))] dX4_copyFrom_1 (by decide) rfl ?_
  refine gz_sub [1, 2, 0] rfl ?_
  have ll_2 : ∀ (n_2 : Nat) (σ : Dz) (y2 : Int32) , L_X4_copyFrom_2 k k1 post  n_2 σ y2 → Gz p l e r_X4_copyFrom s m args below meth c D ad ty 3 0 0 (Ez below D ad ty nV0 (fun _ τ => post τ) (fun _ _ => False) args s 0 0) σ 2 [(0, .ref (ad k)), (1, .ref (ad k1)), (2, .int y2)] [] := by
    intro n_2; induction n_2 with
    | zero => intro σ y2 hp; exact False.elim hp
    | succ n_2 ih_2 =>
      intro σ y2 hp
      have hp : B_X4_copyFrom_2 k k1 post  (L_X4_copyFrom_2 k k1 post  n_2) σ y2 := hp
      unfold B_X4_copyFrom_2 at hp
      refine gz_iload_n K dX4_copyFrom_2 2 rfl ?_
      refine gz_bipush K (v := (10 : Int32)) dX4_copyFrom_3 (by decide) ?_
      refine gz_icmp_ge K 26 dX4_copyFrom_5 (by decide) (fun h => ?_) (fun h => ?_)
      · have hp := hp.1 h
        refine gz_aload_n K dX4_copyFrom_26 0 rfl ?_
        refine gz_aload_n K dX4_copyFrom_27 1 rfl ?_
        refine gz_get K (v := .int (gz_i σ k1 2)) (ceS h1).1 ((ceS h1).2 _ _ _ _ _ _) rfl inz_X4 2 (by decide) zq1_189 rfl dX4_copyFrom_28 ?_
        refine gz_put K (x := (gz_i σ k1 2)) (ceS hk).1 ((ceS hk).2 _ _ _ _ _ _) rfl inz_X4 tyX4 tyX4_ok nmX4 2 (by decide) zq1_189 rfl (tyX4_ok _ (by decide)) rfl rfl (Nat.le_of_ble_eq_true rfl) (peX4_2 hk) dX4_copyFrom_31 ?_
        refine gz_aload_n K dX4_copyFrom_34 0 rfl ?_
        refine gz_aload_n K dX4_copyFrom_35 1 rfl ?_
        refine gz_get K (v := .int (gz_i (sz_i σ k 2 (gz_i σ k1 2)) k1 3)) (ceS h1).1 ((ceS h1).2 _ _ _ _ _ _) rfl inz_X4 3 (by decide) zq1_190 rfl dX4_copyFrom_36 ?_
        refine gz_put K (x := (gz_i (sz_i σ k 2 (gz_i σ k1 2)) k1 3)) (ceS hk).1 ((ceS hk).2 _ _ _ _ _ _) rfl inz_X4 tyX4 tyX4_ok nmX4 3 (by decide) zq1_190 rfl (tyX4_ok _ (by decide)) rfl rfl (Nat.le_of_ble_eq_true rfl) (peX4_3 hk) dX4_copyFrom_39 ?_
        refine gz_iconst K (v := (0 : Int32)) dX4_copyFrom_42 (by decide) ?_
        refine gz_istore_n K [(2, .int (0 : Int32)), (0, .ref (ad k)), (1, .ref (ad k1))] dX4_copyFrom_43 (by decide) rfl ?_
        refine gz_sub [1, 2, 0] rfl ?_
        have ll_44 : ∀ (n_44 : Nat) (σ : Dz) (y2 : Int32) , L_X4_copyFrom_44 k k1 post  n_44 σ y2 → Gz p l e r_X4_copyFrom s m args below meth c D ad ty 3 0 0 (Ez below D ad ty nV0 (fun _ τ => post τ) (fun _ _ => False) args s 0 0) σ 44 [(0, .ref (ad k)), (1, .ref (ad k1)), (2, .int y2)] [] := by
          intro n_44; induction n_44 with
          | zero => intro σ y2 hp; exact False.elim hp
          | succ n_44 ih_44 =>
            intro σ y2 hp
            have hp : B_X4_copyFrom_44 k k1 post  (L_X4_copyFrom_44 k k1 post  n_44) σ y2 := hp
            unfold B_X4_copyFrom_44 at hp
            refine gz_iload_n K dX4_copyFrom_44 2 rfl ?_
            refine gz_iconst K (v := (4 : Int32)) dX4_copyFrom_45 (by decide) ?_
            refine gz_icmp_ge K 70 dX4_copyFrom_46 (by decide) (fun h => ?_) (fun h => ?_)
            · have hp := hp.1 h
              exact gz_vret K hr hp dX4_copyFrom_70 (Nat.le_of_ble_eq_true rfl) (Nat.le_of_ble_eq_true rfl)
            · have hp := hp.2 h
              refine gz_aload_n K dX4_copyFrom_49 0 rfl ?_
              refine gz_get K (v := .ref (ad (k + 2))) (ceS hk).1 ((ceS hk).2 _ _ _ _ _ _) rfl inz_X4 1 (by decide) zq1_188 rfl dX4_copyFrom_50 ?_
              refine gz_iload_n K dX4_copyFrom_53 2 rfl ?_
              obtain ⟨h54, hp⟩ := hp
              refine gz_aald K (cwS2 hk).1 ((cwS2 hk).2 _ _ _ _ _ _) h54 dX4_copyFrom_54 ?_
              refine gz_aload_n K dX4_copyFrom_55 1 rfl ?_
              refine gz_get K (v := .ref (ad (k1 + 2))) (ceS h1).1 ((ceS h1).2 _ _ _ _ _ _) rfl inz_X4 1 (by decide) zq1_188 rfl dX4_copyFrom_56 ?_
              refine gz_iload_n K dX4_copyFrom_59 2 rfl ?_
              obtain ⟨h60, hp⟩ := hp
              refine gz_aald K (cwS2 h1).1 ((cwS2 h1).2 _ _ _ _ _ _) h60 dX4_copyFrom_60 ?_
              refine gz_callV K hex (c_X6_copyFrom K.2.2.2.2.2 K.2.2.1 (isW_S hk (vp_lt h54)) (isW_S h1 (vp_lt h60)) hp) cf_X6_copyFrom zq2_99 (ceW (isW_S hk (vp_lt h54))).1 ((ceW (isW_S hk (vp_lt h54))).2 _ _ _ _ _ _) rfl dX4_copyFrom_61 rfl rfl (Nat.le_of_ble_eq_true rfl) ⟨Nat.le_of_ble_eq_true rfl, Nat.le_of_ble_eq_true rfl⟩ ⟨Nat.le_of_ble_eq_true rfl, Nat.le_of_ble_eq_true rfl⟩ (Nat.le_of_ble_eq_true rfl) (Nat.le_of_ble_eq_true rfl) (fun _ _ h => h.elim) (fun _ τ61 hp => ?_)
              refine gz_norm (st' := []) (cells' := 0) (slots' := 0) rfl rfl rfl ?_
              refine gz_iinc K (v := (y2 + 1)) [(2, .int (y2 + 1)), (0, .ref (ad k)), (1, .ref (ad k1))] dX4_copyFrom_64 2 rfl (by first | rfl | decide) (by decide) rfl ?_
              refine gz_goto K 44 dX4_copyFrom_67 (by decide) ?_
              refine gz_sub [1, 2, 0] rfl ?_
              exact ih_44 τ61 (y2 + 1)  hp
        obtain ⟨n, hp⟩ := hp
        exact ll_44 n (sz_i (sz_i σ k 2 (gz_i σ k1 2)) k 3 (gz_i (sz_i σ k 2 (gz_i σ k1 2)) k1 3)) (0 : Int32)  hp
      · have hp := hp.2 h
        refine gz_aload_n K dX4_copyFrom_8 0 rfl ?_
        refine gz_get K (v := .ref (ad (k + 1))) (ceS hk).1 ((ceS hk).2 _ _ _ _ _ _) rfl inz_X4 0 (by decide) zq1_187 rfl dX4_copyFrom_9 ?_
        refine gz_iload_n K dX4_copyFrom_12 2 rfl ?_
        refine gz_aload_n K dX4_copyFrom_13 1 rfl ?_
        refine gz_get K (v := .ref (ad (k1 + 1))) (ceS h1).1 ((ceS h1).2 _ _ _ _ _ _) rfl inz_X4 0 (by decide) zq1_187 rfl dX4_copyFrom_14 ?_
        refine gz_iload_n K dX4_copyFrom_17 2 rfl ?_
        obtain ⟨h, hp⟩ := hp
        refine gz_iald K (caS h1).1 ((caS h1).2 _ _ _ _ _ _) h dX4_copyFrom_18 ?_
        obtain ⟨h, hp⟩ := hp
        refine gz_iast K (x := (gz_i σ (k1 + 1) (y2).toNatClampNeg)) (caS hk).1 ((caS hk).2 ad ty) h dX4_copyFrom_19 ?_
        refine gz_iinc K (v := (y2 + 1)) [(2, .int (y2 + 1)), (0, .ref (ad k)), (1, .ref (ad k1))] dX4_copyFrom_20 2 rfl (by first | rfl | decide) (by decide) rfl ?_
        refine gz_goto K 2 dX4_copyFrom_23 (by decide) ?_
        refine gz_sub [1, 2, 0] rfl ?_
        exact ih_2 (sz_i σ (k + 1) (y2).toNatClampNeg (gz_i σ (k1 + 1) (y2).toNatClampNeg)) (y2 + 1)  hp
  obtain ⟨n, hp⟩ := hp
  exact ll_2 n σ (0 : Int32)  hp
set_option maxRecDepth 100000 in
set_option maxHeartbeats 4000000 in
theorem c_X4_places {l : Launch} {D : va_G} {ad : Nat → Nat} {ty : Nat → ClassId} (hl : l.stackTraces = false) (hj : ∀ i j, i < 68 → j < 68 → ad i = ad j → i = j) {σ : Dz} {k : Nat} (hk : isS k) {post : Int32 → Prop} (hp : P_X4_places σ k post) : Mz l D ad ty yX4_places cX4_places 1 (some .int) r_X4_places nI0 σ [.ref (ad k)] (fun r τ => σ = τ ∧ post r) (fun _ _ => False) := by
  refine mz_of (by decide) hl hj (Nat.le_of_ble_eq_true rfl) ?_
  intro p e s m args below meth c K hex hr
  unfold P_X4_places at hp
  show Gz p l e r_X4_places s m args below meth c D ad ty 1 0 0 (Ez below D ad ty nI0 (fun r τ => σ = τ ∧ post r) (fun _ _ => False) args s 0 0) σ 0 [(0, .ref (ad k))] []
  refine gz_aload_n K dX4_places_0 0 rfl ?_
  refine gz_get K (v := .int (gz_i σ k 3)) (ceS hk).1 ((ceS hk).2 _ _ _ _ _ _) rfl inz_X4 3 (by decide) zq1_190 rfl dX4_places_1 ?_
  exact gz_iret K hr ⟨rfl, hp⟩ dX4_places_4 (Nat.le_of_ble_eq_true rfl) (Nat.le_of_ble_eq_true rfl)
set_option maxRecDepth 100000 in
set_option maxHeartbeats 4000000 in
theorem c_X4_arrange {l : Launch} {D : va_G} {ad : Nat → Nat} {ty : Nat → ClassId} (hl : l.stackTraces = false) (hj : ∀ i j, i < 68 → j < 68 → ad i = ad j → i = j) {σ : Dz} {k : Nat} (hk : isS k) {x1 : Int32} {post : Dz → Prop} (hp : P_X4_arrange σ k x1 post) : Mz l D ad ty yX4_arrange cX4_arrange 2 none r_X4_arrange nV0 σ [.ref (ad k), .int x1] (fun _ τ => post τ) (fun _ _ => False) := by
  refine mz_of (by decide) hl hj (Nat.le_of_ble_eq_true rfl) ?_
  intro p e s m args below meth c K hex hr
  unfold P_X4_arrange at hp
  show Gz p l e r_X4_arrange s m args below meth c D ad ty 2 0 0 (Ez below D ad ty nV0 (fun _ τ => post τ) (fun _ _ => False) args s 0 0) σ 0 [(0, .ref (ad k)), (1, .int x1)] []
  refine gz_aload_n K dX4_arrange_0 0 rfl ?_
  refine gz_iload_n K dX4_arrange_1 1 rfl ?_
  refine gz_put K (x := x1) (ceS hk).1 ((ceS hk).2 _ _ _ _ _ _) rfl inz_X4 tyX4 tyX4_ok nmX4 3 (by decide) zq1_190 rfl (tyX4_ok _ (by decide)) rfl rfl (Nat.le_of_ble_eq_true rfl) (peX4_3 hk) dX4_arrange_2 ?_
  exact gz_vret K hr hp dX4_arrange_5 (Nat.le_of_ble_eq_true rfl) (Nat.le_of_ble_eq_true rfl)
set_option maxRecDepth 100000 in
set_option maxHeartbeats 4000000 in
theorem c_X4_word {l : Launch} {D : va_G} {ad : Nat → Nat} {ty : Nat → ClassId} (hl : l.stackTraces = false) (hj : ∀ i j, i < 68 → j < 68 → ad i = ad j → i = j) {σ : Dz} {k : Nat} (hk : isS k) {x1 : Int32} {post : Nat → Prop} (hp : P_X4_word σ k x1 post) : Mz l D ad ty yX4_word cX4_word 2 (some (.object "PermutationPuzzle$Word")) r_X4_word (nR0 ad) σ [.ref (ad k), .int x1] (fun r τ => σ = τ ∧ isW r ∧ post r) (fun _ _ => False) := by
  refine mz_of (by decide) hl hj (Nat.le_of_ble_eq_true rfl) ?_
  intro p e s m args below meth c K hex hr
  unfold P_X4_word at hp
  show Gz p l e r_X4_word s m args below meth c D ad ty 2 0 0 (Ez below D ad ty (nR0 ad) (fun r τ => σ = τ ∧ isW r ∧ post r) (fun _ _ => False) args s 0 0) σ 0 [(0, .ref (ad k)), (1, .int x1)] []
  refine gz_aload_n K dX4_word_0 0 rfl ?_
  refine gz_get K (v := .ref (ad (k + 2))) (ceS hk).1 ((ceS hk).2 _ _ _ _ _ _) rfl inz_X4 1 (by decide) zq1_188 rfl dX4_word_1 ?_
  refine gz_iload_n K dX4_word_4 1 rfl ?_
  refine gz_if_lt K 17 dX4_word_5 (by decide) (fun h => ?_) (fun h => ?_)
  · have hp := hp.1 h
    refine gz_iconst K (v := (0 : Int32)) dX4_word_17 (by decide) ?_
    obtain ⟨h18, hp⟩ := hp
    refine gz_aald K (cwS2 hk).1 ((cwS2 hk).2 _ _ _ _ _ _) h18 dX4_word_18 ?_
    exact gz_aret K hr ⟨rfl, (isW_S hk (vp_lt h18)), hp⟩ dX4_word_19 (Nat.le_of_ble_eq_true rfl) (Nat.le_of_ble_eq_true rfl)
  · have hp := hp.2 h
    refine gz_iload_n K dX4_word_8 1 rfl ?_
    refine gz_iconst K (v := (4 : Int32)) dX4_word_9 (by decide) ?_
    refine gz_icmp_ge K 17 dX4_word_10 (by decide) (fun h => ?_) (fun h => ?_)
    · have hp := hp.1 h
      refine gz_iconst K (v := (0 : Int32)) dX4_word_17 (by decide) ?_
      obtain ⟨h18, hp⟩ := hp
      refine gz_aald K (cwS2 hk).1 ((cwS2 hk).2 _ _ _ _ _ _) h18 dX4_word_18 ?_
      exact gz_aret K hr ⟨rfl, (isW_S hk (vp_lt h18)), hp⟩ dX4_word_19 (Nat.le_of_ble_eq_true rfl) (Nat.le_of_ble_eq_true rfl)
    · have hp := hp.2 h
      refine gz_iload_n K dX4_word_13 1 rfl ?_
      refine gz_goto K 18 dX4_word_14 (by decide) ?_
      obtain ⟨h18, hp⟩ := hp
      refine gz_aald K (cwS2 hk).1 ((cwS2 hk).2 _ _ _ _ _ _) h18 dX4_word_18 ?_
      exact gz_aret K hr ⟨rfl, (isW_S hk (vp_lt h18)), hp⟩ dX4_word_19 (Nat.le_of_ble_eq_true rfl) (Nat.le_of_ble_eq_true rfl)
set_option maxRecDepth 100000 in
set_option maxHeartbeats 4000000 in
theorem c_X4_defineMove {l : Launch} {D : va_G} {ad : Nat → Nat} {ty : Nat → ClassId} (hl : l.stackTraces = false) (hj : ∀ i j, i < 68 → j < 68 → ad i = ad j → i = j) {σ : Dz} {k : Nat} (hk : isS k) {x1 : Int32} {x2 : Int32} {post : Dz → Prop} (hp : P_X4_defineMove σ k x1 x2 post) : Mz l D ad ty yX4_defineMove cX4_defineMove 3 none r_X4_defineMove nV0 σ [.ref (ad k), .int x1, .int x2] (fun _ τ => post τ) (fun _ _ => False) := by
  refine mz_of (by decide) hl hj (Nat.le_of_ble_eq_true rfl) ?_
  intro p e s m args below meth c K hex hr
  unfold P_X4_defineMove at hp
  show Gz p l e r_X4_defineMove s m args below meth c D ad ty 3 0 0 (Ez below D ad ty nV0 (fun _ τ => post τ) (fun _ _ => False) args s 0 0) σ 0 [(0, .ref (ad k)), (1, .int x1), (2, .int x2)] []
  refine gz_iload_n K dX4_defineMove_0 1 rfl ?_
  refine gz_if_lt K 9 dX4_defineMove_1 (by decide) (fun h => ?_) (fun h => ?_)
  · have hp := hp.1 h
    exact gz_vret K hr hp dX4_defineMove_9 (Nat.le_of_ble_eq_true rfl) (Nat.le_of_ble_eq_true rfl)
  · have hp := hp.2 h
    refine gz_iload_n K dX4_defineMove_4 1 rfl ?_
    refine gz_iconst K (v := (5 : Int32)) dX4_defineMove_5 (by decide) ?_
    refine gz_icmp_lt K 10 dX4_defineMove_6 (by decide) (fun h => ?_) (fun h => ?_)
    · have hp := hp.1 h
      refine gz_aload_n K dX4_defineMove_10 0 rfl ?_
      refine gz_get K (v := .ref (ad (k + 1))) (ceS hk).1 ((ceS hk).2 _ _ _ _ _ _) rfl inz_X4 0 (by decide) zq1_187 rfl dX4_defineMove_11 ?_
      refine gz_iconst K (v := (2 : Int32)) dX4_defineMove_14 (by decide) ?_
      refine gz_iload_n K dX4_defineMove_15 1 rfl ?_
      refine gz_imul K dX4_defineMove_16 ?_
      refine gz_iload_n K dX4_defineMove_17 2 rfl ?_
      obtain ⟨h, hp⟩ := hp
      refine gz_iast K (x := x2) (caS hk).1 ((caS hk).2 ad ty) h dX4_defineMove_18 ?_
      refine gz_aload_n K dX4_defineMove_19 0 rfl ?_
      refine gz_get K (v := .ref (ad (k + 1))) (ceS hk).1 ((ceS hk).2 _ _ _ _ _ _) rfl inz_X4 0 (by decide) zq1_187 rfl dX4_defineMove_20 ?_
      refine gz_iconst K (v := (2 : Int32)) dX4_defineMove_23 (by decide) ?_
      refine gz_iload_n K dX4_defineMove_24 1 rfl ?_
      refine gz_imul K dX4_defineMove_25 ?_
      refine gz_iconst K (v := (1 : Int32)) dX4_defineMove_26 (by decide) ?_
      refine gz_iadd K dX4_defineMove_27 ?_
      refine gz_iload_n K dX4_defineMove_28 2 rfl ?_
      refine gz_callS K hex (c_X3_inverseOf K.2.2.2.2.2 K.2.2.1 hp) cf_X3_inverseOf zq3_76 dX4_defineMove_29 rfl rfl (Nat.le_of_ble_eq_true rfl) ⟨Nat.le_of_ble_eq_true rfl, Nat.le_of_ble_eq_true rfl⟩ ⟨Nat.le_of_ble_eq_true rfl, Nat.le_of_ble_eq_true rfl⟩ (Nat.le_of_ble_eq_true rfl) (Nat.le_of_ble_eq_true rfl) (fun _ _ h => h.elim) (fun r29 τ hp => ?_)
      obtain ⟨rfl, hp⟩ := hp
      refine gz_norm (st' := [.int r29, .int (((2 : Int32) * x1) + (1 : Int32)), .ref (ad (k + 1))]) (cells' := 0) (slots' := 0) rfl rfl rfl ?_
      obtain ⟨h, hp⟩ := hp
      refine gz_iast K (x := r29) (caS hk).1 ((caS hk).2 ad ty) h dX4_defineMove_32 ?_
      refine gz_aload_n K dX4_defineMove_33 0 rfl ?_
      refine gz_dup K dX4_defineMove_34 rfl ?_
      refine gz_get K (v := .int (gz_i (sz_i (sz_i σ (k + 1) (((2 : Int32) * x1)).toNatClampNeg x2) (k + 1) ((((2 : Int32) * x1) + (1 : Int32))).toNatClampNeg r29) k 2)) (ceS hk).1 ((ceS hk).2 _ _ _ _ _ _) rfl inz_X4 2 (by decide) zq1_189 rfl dX4_defineMove_35 ?_
      refine gz_iconst K (v := (1 : Int32)) dX4_defineMove_38 (by decide) ?_
      refine gz_iload_n K dX4_defineMove_39 1 rfl ?_
      refine gz_ishl K dX4_defineMove_40 ?_
      refine gz_ior K dX4_defineMove_41 ?_
      refine gz_put K (x := ((gz_i (sz_i (sz_i σ (k + 1) (((2 : Int32) * x1)).toNatClampNeg x2) (k + 1) ((((2 : Int32) * x1) + (1 : Int32))).toNatClampNeg r29) k 2) ||| ((1 : Int32) <<< (x1 &&& 31)))) (ceS hk).1 ((ceS hk).2 _ _ _ _ _ _) rfl inz_X4 tyX4 tyX4_ok nmX4 2 (by decide) zq1_189 rfl (tyX4_ok _ (by decide)) rfl rfl (Nat.le_of_ble_eq_true rfl) (peX4_2 hk) dX4_defineMove_42 ?_
      exact gz_vret K hr hp dX4_defineMove_45 (Nat.le_of_ble_eq_true rfl) (Nat.le_of_ble_eq_true rfl)
    · have hp := hp.2 h
      exact gz_vret K hr hp dX4_defineMove_9 (Nat.le_of_ble_eq_true rfl) (Nat.le_of_ble_eq_true rfl)
set_option maxRecDepth 100000 in
set_option maxHeartbeats 4000000 in
theorem c_X5_isName {l : Launch} {D : va_G} {ad : Nat → Nat} {ty : Nat → ClassId} (hl : l.stackTraces = false) (hj : ∀ i j, i < 68 → j < 68 → ad i = ad j → i = j) {σ : Dz} {x0 : Int32} {post : Int32 → Prop} (hp : P_X5_isName x0 post) : Mz l D ad ty yX5_isName cX5_isName 1 (some .boolean) r_X5_isName nI0 σ [.int x0] (fun r τ => σ = τ ∧ post r) (fun _ _ => False) := by
  refine mz_of (by decide) hl hj (Nat.le_of_ble_eq_true rfl) ?_
  intro p e s m args below meth c K hex hr
  unfold P_X5_isName at hp
  show Gz p l e r_X5_isName s m args below meth c D ad ty 1 0 0 (Ez below D ad ty nI0 (fun r τ => σ = τ ∧ post r) (fun _ _ => False) args s 0 0) σ 0 [(0, .int x0)] []
  refine gz_iload_n K dX5_isName_0 0 rfl ?_
  refine gz_bipush K (v := (97 : Int32)) dX5_isName_1 (by decide) ?_
  refine gz_icmp_lt K 16 dX5_isName_3 (by decide) (fun h => ?_) (fun h => ?_)
  · have hp := hp.1 h
    refine gz_iconst K (v := (0 : Int32)) dX5_isName_16 (by decide) ?_
    exact gz_zret K hr (by decide) ⟨rfl, hp⟩ dX5_isName_17 (Nat.le_of_ble_eq_true rfl) (Nat.le_of_ble_eq_true rfl)
  · have hp := hp.2 h
    refine gz_iload_n K dX5_isName_6 0 rfl ?_
    refine gz_bipush K (v := (102 : Int32)) dX5_isName_7 (by decide) ?_
    refine gz_icmp_ge K 16 dX5_isName_9 (by decide) (fun h => ?_) (fun h => ?_)
    · have hp := hp.1 h
      refine gz_iconst K (v := (0 : Int32)) dX5_isName_16 (by decide) ?_
      exact gz_zret K hr (by decide) ⟨rfl, hp⟩ dX5_isName_17 (Nat.le_of_ble_eq_true rfl) (Nat.le_of_ble_eq_true rfl)
    · have hp := hp.2 h
      refine gz_iconst K (v := (1 : Int32)) dX5_isName_12 (by decide) ?_
      refine gz_goto K 17 dX5_isName_13 (by decide) ?_
      exact gz_zret K hr (by decide) ⟨rfl, hp⟩ dX5_isName_17 (Nat.le_of_ble_eq_true rfl) (Nat.le_of_ble_eq_true rfl)
set_option maxRecDepth 100000 in
set_option maxHeartbeats 4000000 in
theorem c_X4_definesNamesIn {l : Launch} {D : va_G} {ad : Nat → Nat} {ty : Nat → ClassId} (hl : l.stackTraces = false) (hj : ∀ i j, i < 68 → j < 68 → ad i = ad j → i = j) {σ : Dz} {k : Nat} (hk : isS k) {post : Int32 → Prop} (hp : P_X4_definesNamesIn σ k post) : Mz l D ad ty yX4_definesNamesIn cX4_definesNamesIn 4 (some .boolean) r_X4_definesNamesIn nI0 σ [.ref (ad k), .ref (ad 1)] (fun r τ => σ = τ ∧ post r) (fun _ _ => False) := by
  refine mz_of (by decide) hl hj (Nat.le_of_ble_eq_true rfl) ?_
  intro p e s m args below meth c K hex hr
  unfold P_X4_definesNamesIn at hp
  show Gz p l e r_X4_definesNamesIn s m args below meth c D ad ty 4 0 0 (Ez below D ad ty nI0 (fun r τ => σ = τ ∧ post r) (fun _ _ => False) args s 0 0) σ 0 [(0, .ref (ad k)), (1, .ref (ad 1))] []
  refine gz_iconst K (v := (0 : Int32)) dX4_definesNamesIn_0 (by decide) ?_
  refine gz_istore_n K [(2, .int (0 : Int32)), (0, .ref (ad k)), (1, .ref (ad 1))] dX4_definesNamesIn_1 (by decide) rfl ?_
  refine gz_sub [1, 2, 0] rfl ?_
  have ll_2 : ∀ (n_2 : Nat) (y2 : Int32) , L_X4_definesNamesIn_2 σ k post  n_2 y2 → Gz p l e r_X4_definesNamesIn s m args below meth c D ad ty 4 0 0 (Ez below D ad ty nI0 (fun r τ => σ = τ ∧ post r) (fun _ _ => False) args s 0 0) σ 2 [(0, .ref (ad k)), (1, .ref (ad 1)), (2, .int y2)] [] := by
    intro n_2; induction n_2 with
    | zero => intro y2 hp; exact False.elim hp
    | succ n_2 ih_2 =>
      intro y2 hp
      have hp : B_X4_definesNamesIn_2 σ k post  (L_X4_definesNamesIn_2 σ k post  n_2) y2 := hp
      unfold B_X4_definesNamesIn_2 at hp
      have bb_36 : ∀ (y2 : Int32) , B_X4_definesNamesIn_36 σ k post (L_X4_definesNamesIn_2 σ k post  n_2) y2 → Gz p l e r_X4_definesNamesIn s m args below meth c D ad ty 4 0 0 (Ez below D ad ty nI0 (fun r τ => σ = τ ∧ post r) (fun _ _ => False) args s 0 0) σ 36 [(0, .ref (ad k)), (1, .ref (ad 1)), (2, .int y2)] [] := by
        intro y2 hp
        unfold B_X4_definesNamesIn_36 at hp
        refine gz_iinc K (v := (y2 + 1)) [(2, .int (y2 + 1)), (0, .ref (ad k)), (1, .ref (ad 1))] dX4_definesNamesIn_36 2 rfl (by first | rfl | decide) (by decide) rfl ?_
        refine gz_goto K 2 dX4_definesNamesIn_39 (by decide) ?_
        refine gz_sub [1, 2, 0] rfl ?_
        exact ih_2 (y2 + 1)  hp
      refine gz_iload_n K dX4_definesNamesIn_2 2 rfl ?_
      refine gz_aload_n K dX4_definesNamesIn_3 1 rfl ?_
      refine gz_callV K hex (c_X5_length K.2.2.2.2.2 K.2.2.1 hp) cf_X5_length zq3_133 (by decide) (ce_1 _ _ _ _ _ _) rfl dX4_definesNamesIn_4 rfl rfl (Nat.le_of_ble_eq_true rfl) ⟨Nat.le_of_ble_eq_true rfl, Nat.le_of_ble_eq_true rfl⟩ ⟨Nat.le_of_ble_eq_true rfl, Nat.le_of_ble_eq_true rfl⟩ (Nat.le_of_ble_eq_true rfl) (Nat.le_of_ble_eq_true rfl) (fun _ _ h => h.elim) (fun r4 τ hp => ?_)
      obtain ⟨rfl, hp⟩ := hp
      refine gz_norm (st' := [.int r4, .int y2]) (cells' := 0) (slots' := 0) rfl rfl rfl ?_
      refine gz_icmp_ge K 42 dX4_definesNamesIn_7 (by decide) (fun h => ?_) (fun h => ?_)
      · have hp := hp.1 h
        refine gz_iconst K (v := (1 : Int32)) dX4_definesNamesIn_42 (by decide) ?_
        exact gz_zret K hr (by decide) ⟨rfl, hp⟩ dX4_definesNamesIn_43 (Nat.le_of_ble_eq_true rfl) (Nat.le_of_ble_eq_true rfl)
      · have hp := hp.2 h
        refine gz_aload_n K dX4_definesNamesIn_10 1 rfl ?_
        refine gz_iload_n K dX4_definesNamesIn_11 2 rfl ?_
        refine gz_callV K hex (c_X5_at K.2.2.2.2.2 K.2.2.1 hp) cf_X5_at zq3_134 (by decide) (ce_1 _ _ _ _ _ _) rfl dX4_definesNamesIn_12 rfl rfl (Nat.le_of_ble_eq_true rfl) ⟨Nat.le_of_ble_eq_true rfl, Nat.le_of_ble_eq_true rfl⟩ ⟨Nat.le_of_ble_eq_true rfl, Nat.le_of_ble_eq_true rfl⟩ (Nat.le_of_ble_eq_true rfl) (Nat.le_of_ble_eq_true rfl) (fun _ _ h => h.elim) (fun r12 τ hp => ?_)
        obtain ⟨rfl, hp⟩ := hp
        refine gz_norm (st' := [.int r12]) (cells' := 0) (slots' := 0) rfl rfl rfl ?_
        refine gz_istore_n K [(3, .int r12), (0, .ref (ad k)), (1, .ref (ad 1)), (2, .int y2)] dX4_definesNamesIn_15 (by decide) rfl ?_
        refine gz_iload_n K dX4_definesNamesIn_16 0 rfl ?_
        refine gz_callS K hex (c_X5_isName K.2.2.2.2.2 K.2.2.1 hp) cf_X5_isName zq3_135 dX4_definesNamesIn_17 rfl rfl (Nat.le_of_ble_eq_true rfl) ⟨Nat.le_of_ble_eq_true rfl, Nat.le_of_ble_eq_true rfl⟩ ⟨Nat.le_of_ble_eq_true rfl, Nat.le_of_ble_eq_true rfl⟩ (Nat.le_of_ble_eq_true rfl) (Nat.le_of_ble_eq_true rfl) (fun _ _ h => h.elim) (fun r17 τ hp => ?_)
        obtain ⟨rfl, hp⟩ := hp
        refine gz_norm (st' := [.int r17]) (cells' := 0) (slots' := 0) rfl rfl rfl ?_
        refine gz_if_eq K 36 dX4_definesNamesIn_20 (by decide) (fun h => ?_) (fun h => ?_)
        · have hp := hp.1 h
          refine gz_sub [1, 2, 3] rfl ?_
          exact bb_36 y2  hp
        · have hp := hp.2 h
          refine gz_aload_n K dX4_definesNamesIn_23 1 rfl ?_
          refine gz_iload_n K dX4_definesNamesIn_24 0 rfl ?_
          refine gz_bipush K (v := (97 : Int32)) dX4_definesNamesIn_25 (by decide) ?_
          refine gz_isub K dX4_definesNamesIn_27 ?_
          refine gz_callV K hex (c_X4_isDefined K.2.2.2.2.2 K.2.2.1 hk hp) cf_X4_isDefined zq3_136 (ceS hk).1 ((ceS hk).2 _ _ _ _ _ _) rfl dX4_definesNamesIn_28 rfl rfl (Nat.le_of_ble_eq_true rfl) ⟨Nat.le_of_ble_eq_true rfl, Nat.le_of_ble_eq_true rfl⟩ ⟨Nat.le_of_ble_eq_true rfl, Nat.le_of_ble_eq_true rfl⟩ (Nat.le_of_ble_eq_true rfl) (Nat.le_of_ble_eq_true rfl) (fun _ _ h => h.elim) (fun r28 τ hp => ?_)
          obtain ⟨rfl, hp⟩ := hp
          refine gz_norm (st' := [.int r28]) (cells' := 0) (slots' := 0) rfl rfl rfl ?_
          refine gz_if_ne K 36 dX4_definesNamesIn_31 (by decide) (fun h => ?_) (fun h => ?_)
          · have hp := hp.1 h
            refine gz_sub [1, 2, 3] rfl ?_
            exact bb_36 y2  hp
          · have hp := hp.2 h
            refine gz_iconst K (v := (0 : Int32)) dX4_definesNamesIn_34 (by decide) ?_
            exact gz_zret K hr (by decide) ⟨rfl, hp⟩ dX4_definesNamesIn_35 (Nat.le_of_ble_eq_true rfl) (Nat.le_of_ble_eq_true rfl)
  obtain ⟨n, hp⟩ := hp
  exact ll_2 n (0 : Int32)  hp
set_option maxRecDepth 100000 in
set_option maxHeartbeats 4000000 in
theorem c_X4_effectOfWord {l : Launch} {D : va_G} {ad : Nat → Nat} {ty : Nat → ClassId} (hl : l.stackTraces = false) (hj : ∀ i j, i < 68 → j < 68 → ad i = ad j → i = j) {σ : Dz} {k : Nat} (hk : isS k) {x1 : Int32} {post : Int32 → Prop} (hp : P_X4_effectOfWord σ k x1 post) : Mz l D ad ty yX4_effectOfWord cX4_effectOfWord 5 (some .int) r_X4_effectOfWord nI0 σ [.ref (ad k), .int x1] (fun r τ => σ = τ ∧ post r) (fun _ _ => False) := by
  refine mz_of (by decide) hl hj (Nat.le_of_ble_eq_true rfl) ?_
  intro p e s m args below meth c K hex hr
  unfold P_X4_effectOfWord at hp
  show Gz p l e r_X4_effectOfWord s m args below meth c D ad ty 5 0 0 (Ez below D ad ty nI0 (fun r τ => σ = τ ∧ post r) (fun _ _ => False) args s 0 0) σ 0 [(0, .ref (ad k)), (1, .int x1)] []
  refine gz_aload_n K dX4_effectOfWord_0 0 rfl ?_
  refine gz_iload_n K dX4_effectOfWord_1 1 rfl ?_
  refine gz_callV K hex (c_X4_word K.2.2.2.2.2 K.2.2.1 hk hp) cf_X4_word zq4_53 (ceS hk).1 ((ceS hk).2 _ _ _ _ _ _) rfl dX4_effectOfWord_2 rfl rfl (Nat.le_of_ble_eq_true rfl) ⟨Nat.le_of_ble_eq_true rfl, Nat.le_of_ble_eq_true rfl⟩ ⟨Nat.le_of_ble_eq_true rfl, Nat.le_of_ble_eq_true rfl⟩ (Nat.le_of_ble_eq_true rfl) (Nat.le_of_ble_eq_true rfl) (fun _ _ h => h.elim) (fun r2 τ hp => ?_)
  obtain ⟨rfl, hp⟩ := hp
  obtain ⟨u2, hp⟩ := hp
  refine gz_norm (st' := [.ref (ad r2)]) (cells' := 0) (slots' := 0) rfl rfl rfl ?_
  refine gz_astore_n K [(2, .ref (ad r2)), (0, .ref (ad k)), (1, .int x1)] dX4_effectOfWord_5 (by decide) rfl ?_
  refine gz_ldc K zq1_166 dX4_effectOfWord_6 ?_
  refine gz_istore_n K [(3, .int (1754760 : Int32)), (2, .ref (ad r2)), (0, .ref (ad k)), (1, .int x1)] dX4_effectOfWord_8 (by decide) rfl ?_
  refine gz_iconst K (v := (0 : Int32)) dX4_effectOfWord_9 (by decide) ?_
  refine gz_istore K [(4, .int (0 : Int32)), (3, .int (1754760 : Int32)), (2, .ref (ad r2)), (0, .ref (ad k)), (1, .int x1)] dX4_effectOfWord_10 (by decide) rfl ?_
  refine gz_sub [3, 2, 1, 0] rfl ?_
  have ll_12 : ∀ (n_12 : Nat) (v2 : Nat) (y3 : Int32) (y4 : Int32) , isW v2 → L_X4_effectOfWord_12 σ k post  n_12 v2 y3 y4 → Gz p l e r_X4_effectOfWord s m args below meth c D ad ty 5 0 0 (Ez below D ad ty nI0 (fun r τ => σ = τ ∧ post r) (fun _ _ => False) args s 0 0) σ 12 [(0, .ref (ad k)), (2, .ref (ad v2)), (3, .int y3), (4, .int y4)] [] := by
    intro n_12; induction n_12 with
    | zero => intro v2 y3 y4 u2 hp; exact False.elim hp
    | succ n_12 ih_12 =>
      intro v2 y3 y4 u2 hp
      have hp : B_X4_effectOfWord_12 σ k post  (L_X4_effectOfWord_12 σ k post  n_12) v2 y3 y4 := hp
      unfold B_X4_effectOfWord_12 at hp
      refine gz_iload K dX4_effectOfWord_12 3 rfl ?_
      refine gz_aload_n K dX4_effectOfWord_14 1 rfl ?_
      refine gz_callV K hex (c_X6_length K.2.2.2.2.2 K.2.2.1 u2 hp) cf_X6_length zq4_54 (ceW u2).1 ((ceW u2).2 _ _ _ _ _ _) rfl dX4_effectOfWord_15 rfl rfl (Nat.le_of_ble_eq_true rfl) ⟨Nat.le_of_ble_eq_true rfl, Nat.le_of_ble_eq_true rfl⟩ ⟨Nat.le_of_ble_eq_true rfl, Nat.le_of_ble_eq_true rfl⟩ (Nat.le_of_ble_eq_true rfl) (Nat.le_of_ble_eq_true rfl) (fun _ _ h => h.elim) (fun r15 τ hp => ?_)
      obtain ⟨rfl, hp⟩ := hp
      refine gz_norm (st' := [.int r15, .int y4]) (cells' := 0) (slots' := 0) rfl rfl rfl ?_
      refine gz_icmp_ge K 42 dX4_effectOfWord_18 (by decide) (fun h => ?_) (fun h => ?_)
      · have hp := hp.1 h
        refine gz_iload_n K dX4_effectOfWord_42 2 rfl ?_
        exact gz_iret K hr ⟨rfl, hp⟩ dX4_effectOfWord_43 (Nat.le_of_ble_eq_true rfl) (Nat.le_of_ble_eq_true rfl)
      · have hp := hp.2 h
        refine gz_iload_n K dX4_effectOfWord_21 2 rfl ?_
        refine gz_aload_n K dX4_effectOfWord_22 0 rfl ?_
        refine gz_aload_n K dX4_effectOfWord_23 1 rfl ?_
        refine gz_iload K dX4_effectOfWord_24 3 rfl ?_
        refine gz_callV K hex (c_X6_at K.2.2.2.2.2 K.2.2.1 u2 hp) cf_X6_at zq4_55 (ceW u2).1 ((ceW u2).2 _ _ _ _ _ _) rfl dX4_effectOfWord_26 rfl rfl (Nat.le_of_ble_eq_true rfl) ⟨Nat.le_of_ble_eq_true rfl, Nat.le_of_ble_eq_true rfl⟩ ⟨Nat.le_of_ble_eq_true rfl, Nat.le_of_ble_eq_true rfl⟩ (Nat.le_of_ble_eq_true rfl) (Nat.le_of_ble_eq_true rfl) (fun _ _ h => h.elim) (fun r26 τ hp => ?_)
        obtain ⟨rfl, hp⟩ := hp
        refine gz_norm (st' := [.int r26, .ref (ad k), .int y3]) (cells' := 0) (slots' := 0) rfl rfl rfl ?_
        refine gz_callV K hex (c_X4_effectOfLetter K.2.2.2.2.2 K.2.2.1 hk hp) cf_X4_effectOfLetter zq4_56 (ceS hk).1 ((ceS hk).2 _ _ _ _ _ _) rfl dX4_effectOfWord_29 rfl rfl (Nat.le_of_ble_eq_true rfl) ⟨Nat.le_of_ble_eq_true rfl, Nat.le_of_ble_eq_true rfl⟩ ⟨Nat.le_of_ble_eq_true rfl, Nat.le_of_ble_eq_true rfl⟩ (Nat.le_of_ble_eq_true rfl) (Nat.le_of_ble_eq_true rfl) (fun _ _ h => h.elim) (fun r29 τ hp => ?_)
        obtain ⟨rfl, hp⟩ := hp
        refine gz_norm (st' := [.int r29, .int y3]) (cells' := 0) (slots' := 0) rfl rfl rfl ?_
        refine gz_callS K hex (c_X3_then K.2.2.2.2.2 K.2.2.1 hp) cf_X3_then zq4_57 dX4_effectOfWord_32 rfl rfl (Nat.le_of_ble_eq_true rfl) ⟨Nat.le_of_ble_eq_true rfl, Nat.le_of_ble_eq_true rfl⟩ ⟨Nat.le_of_ble_eq_true rfl, Nat.le_of_ble_eq_true rfl⟩ (Nat.le_of_ble_eq_true rfl) (Nat.le_of_ble_eq_true rfl) (fun _ _ h => h.elim) (fun r32 τ hp => ?_)
        obtain ⟨rfl, hp⟩ := hp
        refine gz_norm (st' := [.int r32]) (cells' := 0) (slots' := 0) rfl rfl rfl ?_
        refine gz_istore_n K [(3, .int r32), (0, .ref (ad k)), (2, .ref (ad v2)), (4, .int y4)] dX4_effectOfWord_35 (by decide) rfl ?_
        refine gz_iinc K (v := (y4 + 1)) [(4, .int (y4 + 1)), (3, .int r32), (0, .ref (ad k)), (2, .ref (ad v2))] dX4_effectOfWord_36 3 rfl (by first | rfl | decide) (by decide) rfl ?_
        refine gz_goto K 12 dX4_effectOfWord_39 (by decide) ?_
        refine gz_sub [2, 3, 1, 0] rfl ?_
        exact ih_12 v2 r32 (y4 + 1) u2 hp
  obtain ⟨n, hp⟩ := hp
  exact ll_12 n r2 (1754760 : Int32) (0 : Int32) u2 hp
set_option maxRecDepth 100000 in
set_option maxHeartbeats 4000000 in
theorem c_X4_spread {l : Launch} {D : va_G} {ad : Nat → Nat} {ty : Nat → ClassId} (hl : l.stackTraces = false) (hj : ∀ i j, i < 68 → j < 68 → ad i = ad j → i = j) {σ : Dz} {k : Nat} (hk : isS k) {x1 : Int32} {post : Int32 → Prop} (hp : P_X4_spread σ k x1 post) : Mz l D ad ty yX4_spread cX4_spread 5 (some .int) r_X4_spread nI0 σ [.ref (ad k), .int x1] (fun r τ => σ = τ ∧ post r) (fun _ _ => False) := by
  refine mz_of (by decide) hl hj (Nat.le_of_ble_eq_true rfl) ?_
  intro p e s m args below meth c K hex hr
  unfold P_X4_spread at hp
  show Gz p l e r_X4_spread s m args below meth c D ad ty 5 0 0 (Ez below D ad ty nI0 (fun r τ => σ = τ ∧ post r) (fun _ _ => False) args s 0 0) σ 0 [(0, .ref (ad k)), (1, .int x1)] []
  refine gz_iload_n K dX4_spread_0 1 rfl ?_
  refine gz_istore_n K [(2, .int x1), (0, .ref (ad k)), (1, .int x1)] dX4_spread_1 (by decide) rfl ?_
  refine gz_iconst K (v := (0 : Int32)) dX4_spread_2 (by decide) ?_
  refine gz_istore_n K [(3, .int (0 : Int32)), (2, .int x1), (0, .ref (ad k)), (1, .int x1)] dX4_spread_3 (by decide) rfl ?_
  refine gz_sub [2, 3, 1, 0] rfl ?_
  have ll_4 : ∀ (n_4 : Nat) (y1 : Int32) (y2 : Int32) (y3 : Int32) , L_X4_spread_4 σ k post  n_4 y1 y2 y3 → Gz p l e r_X4_spread s m args below meth c D ad ty 5 0 0 (Ez below D ad ty nI0 (fun r τ => σ = τ ∧ post r) (fun _ _ => False) args s 0 0) σ 4 [(0, .ref (ad k)), (1, .int y1), (2, .int y2), (3, .int y3)] [] := by
    intro n_4; induction n_4 with
    | zero => intro y1 y2 y3 hp; exact False.elim hp
    | succ n_4 ih_4 =>
      intro y1 y2 y3 hp
      have hp : B_X4_spread_4 σ k post  (L_X4_spread_4 σ k post  n_4) y1 y2 y3 := hp
      unfold B_X4_spread_4 at hp
      refine gz_iload_n K dX4_spread_4 3 rfl ?_
      refine gz_bipush K (v := (10 : Int32)) dX4_spread_5 (by decide) ?_
      refine gz_icmp_ge K 58 dX4_spread_7 (by decide) (fun h => ?_) (fun h => ?_)
      · have hp := hp.1 h
        refine gz_iload_n K dX4_spread_58 2 rfl ?_
        exact gz_iret K hr ⟨rfl, hp⟩ dX4_spread_59 (Nat.le_of_ble_eq_true rfl) (Nat.le_of_ble_eq_true rfl)
      · have hp := hp.2 h
        refine gz_iconst K (v := (0 : Int32)) dX4_spread_10 (by decide) ?_
        refine gz_istore K [(4, .int (0 : Int32)), (0, .ref (ad k)), (1, .int y1), (2, .int y2), (3, .int y3)] dX4_spread_11 (by decide) rfl ?_
        refine gz_sub [1, 2, 3, 4, 0] rfl ?_
        have ll_13 : ∀ (n_13 : Nat) (y1 : Int32) (y2 : Int32) (y3 : Int32) (y4 : Int32) , L_X4_spread_13 σ k post (L_X4_spread_4 σ k post  n_4) n_13 y1 y2 y3 y4 → Gz p l e r_X4_spread s m args below meth c D ad ty 5 0 0 (Ez below D ad ty nI0 (fun r τ => σ = τ ∧ post r) (fun _ _ => False) args s 0 0) σ 13 [(0, .ref (ad k)), (1, .int y1), (2, .int y2), (3, .int y3), (4, .int y4)] [] := by
          intro n_13; induction n_13 with
          | zero => intro y1 y2 y3 y4 hp; exact False.elim hp
          | succ n_13 ih_13 =>
            intro y1 y2 y3 y4 hp
            have hp : B_X4_spread_13 σ k post (L_X4_spread_4 σ k post  n_4) (L_X4_spread_13 σ k post (L_X4_spread_4 σ k post  n_4) n_13) y1 y2 y3 y4 := hp
            unfold B_X4_spread_13 at hp
            have bb_46 : ∀ (y1 : Int32) (y2 : Int32) (y3 : Int32) (y4 : Int32) , B_X4_spread_46 σ k post (L_X4_spread_4 σ k post  n_4) (L_X4_spread_13 σ k post (L_X4_spread_4 σ k post  n_4) n_13) y1 y2 y3 y4 → Gz p l e r_X4_spread s m args below meth c D ad ty 5 0 0 (Ez below D ad ty nI0 (fun r τ => σ = τ ∧ post r) (fun _ _ => False) args s 0 0) σ 46 [(0, .ref (ad k)), (1, .int y1), (2, .int y2), (3, .int y3), (4, .int y4)] [] := by
              intro y1 y2 y3 y4 hp
              unfold B_X4_spread_46 at hp
              refine gz_iinc K (v := (y4 + 1)) [(4, .int (y4 + 1)), (0, .ref (ad k)), (1, .int y1), (2, .int y2), (3, .int y3)] dX4_spread_46 4 rfl (by first | rfl | decide) (by decide) rfl ?_
              refine gz_goto K 13 dX4_spread_49 (by decide) ?_
              refine gz_sub [1, 2, 3, 4, 0] rfl ?_
              exact ih_13 y1 y2 y3 (y4 + 1)  hp
            refine gz_iload K dX4_spread_13 4 rfl ?_
            refine gz_bipush K (v := (7 : Int32)) dX4_spread_15 (by decide) ?_
            refine gz_icmp_ge K 52 dX4_spread_17 (by decide) (fun h => ?_) (fun h => ?_)
            · have hp := hp.1 h
              refine gz_iinc K (v := (y3 + 1)) [(3, .int (y3 + 1)), (0, .ref (ad k)), (1, .int y1), (2, .int y2), (4, .int y4)] dX4_spread_52 3 rfl (by first | rfl | decide) (by decide) rfl ?_
              refine gz_goto K 4 dX4_spread_55 (by decide) ?_
              refine gz_sub [1, 2, 3, 0] rfl ?_
              exact ih_4 y1 y2 (y3 + 1)  hp
            · have hp := hp.2 h
              refine gz_iload_n K dX4_spread_20 1 rfl ?_
              refine gz_iload K dX4_spread_21 4 rfl ?_
              refine gz_iushr K dX4_spread_23 ?_
              refine gz_iconst K (v := (1 : Int32)) dX4_spread_24 (by decide) ?_
              refine gz_iand K dX4_spread_25 ?_
              refine gz_iconst K (v := (1 : Int32)) dX4_spread_26 (by decide) ?_
              refine gz_icmp_ne K 46 dX4_spread_27 (by decide) (fun h => ?_) (fun h => ?_)
              · have hp := hp.1 h
                exact bb_46 y1 y2 y3 y4  hp
              · have hp := hp.2 h
                refine gz_iload_n K dX4_spread_30 2 rfl ?_
                refine gz_iconst K (v := (1 : Int32)) dX4_spread_31 (by decide) ?_
                refine gz_aload_n K dX4_spread_32 0 rfl ?_
                refine gz_get K (v := .ref (ad (k + 1))) (ceS hk).1 ((ceS hk).2 _ _ _ _ _ _) rfl inz_X4 0 (by decide) zq1_187 rfl dX4_spread_33 ?_
                refine gz_iload_n K dX4_spread_36 3 rfl ?_
                obtain ⟨h, hp⟩ := hp
                refine gz_iald K (caS hk).1 ((caS hk).2 _ _ _ _ _ _) h dX4_spread_37 ?_
                refine gz_iload K dX4_spread_38 4 rfl ?_
                refine gz_callS K hex (c_X3_imageOf K.2.2.2.2.2 K.2.2.1 hp) cf_X3_imageOf zq4_169 dX4_spread_40 rfl rfl (Nat.le_of_ble_eq_true rfl) ⟨Nat.le_of_ble_eq_true rfl, Nat.le_of_ble_eq_true rfl⟩ ⟨Nat.le_of_ble_eq_true rfl, Nat.le_of_ble_eq_true rfl⟩ (Nat.le_of_ble_eq_true rfl) (Nat.le_of_ble_eq_true rfl) (fun _ _ h => h.elim) (fun r40 τ hp => ?_)
                obtain ⟨rfl, hp⟩ := hp
                refine gz_norm (st' := [.int r40, .int (1 : Int32), .int y2]) (cells' := 0) (slots' := 0) rfl rfl rfl ?_
                refine gz_ishl K dX4_spread_43 ?_
                refine gz_ior K dX4_spread_44 ?_
                refine gz_istore_n K [(2, .int (y2 ||| ((1 : Int32) <<< (r40 &&& 31)))), (0, .ref (ad k)), (1, .int y1), (3, .int y3), (4, .int y4)] dX4_spread_45 (by decide) rfl ?_
                refine gz_sub [1, 2, 0, 3, 4] rfl ?_
                exact bb_46 y1 (y2 ||| ((1 : Int32) <<< (r40 &&& 31))) y3 y4  hp
        obtain ⟨n, hp⟩ := hp
        exact ll_13 n y1 y2 y3 (0 : Int32)  hp
  obtain ⟨n, hp⟩ := hp
  exact ll_4 n x1 x1 (0 : Int32)  hp
set_option maxRecDepth 100000 in
set_option maxHeartbeats 4000000 in
theorem c_X5_add {l : Launch} {D : va_G} {ad : Nat → Nat} {ty : Nat → ClassId} (hl : l.stackTraces = false) (hj : ∀ i j, i < 68 → j < 68 → ad i = ad j → i = j) {σ : Dz} {x1 : Int32} {post : Int32 → Dz → Prop} (hp : P_X5_add σ x1 post) : Mz l D ad ty yX5_add cX5_add 2 (some .boolean) r_X5_add nI0 σ [.ref (ad 1), .int x1] post (fun _ _ => False) := by
  refine mz_of (by decide) hl hj (Nat.le_of_ble_eq_true rfl) ?_
  intro p e s m args below meth c K hex hr
  unfold P_X5_add at hp
  show Gz p l e r_X5_add s m args below meth c D ad ty 2 0 0 (Ez below D ad ty nI0 post (fun _ _ => False) args s 0 0) σ 0 [(0, .ref (ad 1)), (1, .int x1)] []
  refine gz_aload_n K dX5_add_0 0 rfl ?_
  refine gz_get K (v := .int (gz_i σ 1 1)) (by decide) (ce_1 _ _ _ _ _ _) rfl inz_X5 1 (by decide) zq1_39 rfl dX5_add_1 ?_
  refine gz_aload_n K dX5_add_4 0 rfl ?_
  refine gz_get K (v := .ref (ad 2)) (by decide) (ce_1 _ _ _ _ _ _) rfl inz_X5 0 (by decide) zq1_38 rfl dX5_add_5 ?_
  refine gz_alen K (v := (40 : Int32)) 0 rfl (by decide) (ce_2 _ _ _ _ _ _) (by decide) dX5_add_8 ?_
  refine gz_icmp_lt K 14 dX5_add_9 (by decide) (fun h => ?_) (fun h => ?_)
  · have hp := hp.1 h
    refine gz_aload_n K dX5_add_14 0 rfl ?_
    refine gz_get K (v := .ref (ad 2)) (by decide) (ce_1 _ _ _ _ _ _) rfl inz_X5 0 (by decide) zq1_38 rfl dX5_add_15 ?_
    refine gz_aload_n K dX5_add_18 0 rfl ?_
    refine gz_get K (v := .int (gz_i σ 1 1)) (by decide) (ce_1 _ _ _ _ _ _) rfl inz_X5 1 (by decide) zq1_39 rfl dX5_add_19 ?_
    refine gz_iload_n K dX5_add_22 1 rfl ?_
    obtain ⟨hb23, hp⟩ := hp
    obtain ⟨h, hp⟩ := hp
    refine gz_castC K (x := x1) (by decide) (ce_2 ad ty) h hb23 dX5_add_23 ?_
    refine gz_aload_n K dX5_add_24 0 rfl ?_
    refine gz_dup K dX5_add_25 rfl ?_
    refine gz_get K (v := .int (gz_i (sz_i σ 2 ((gz_i σ 1 1)).toNatClampNeg x1) 1 1)) (by decide) (ce_1 _ _ _ _ _ _) rfl inz_X5 1 (by decide) zq1_39 rfl dX5_add_26 ?_
    refine gz_iconst K (v := (1 : Int32)) dX5_add_29 (by decide) ?_
    refine gz_iadd K dX5_add_30 ?_
    refine gz_put K (x := ((gz_i (sz_i σ 2 ((gz_i σ 1 1)).toNatClampNeg x1) 1 1) + (1 : Int32))) (by decide) (ce_1 _ _ _ _ _ _) rfl inz_X5 tyX5 tyX5_ok nmX5 1 (by decide) zq1_39 rfl (tyX5_ok _ (by decide)) rfl rfl (Nat.le_of_ble_eq_true rfl) peX5_1 dX5_add_31 ?_
    refine gz_iconst K (v := (1 : Int32)) dX5_add_34 (by decide) ?_
    exact gz_zret K hr (by decide) hp dX5_add_35 (Nat.le_of_ble_eq_true rfl) (Nat.le_of_ble_eq_true rfl)
  · have hp := hp.2 h
    refine gz_iconst K (v := (0 : Int32)) dX5_add_12 (by decide) ?_
    exact gz_zret K hr (by decide) hp dX5_add_13 (Nat.le_of_ble_eq_true rfl) (Nat.le_of_ble_eq_true rfl)
set_option maxRecDepth 100000 in
set_option maxHeartbeats 4000000 in
theorem c_X5_clear {l : Launch} {D : va_G} {ad : Nat → Nat} {ty : Nat → ClassId} (hl : l.stackTraces = false) (hj : ∀ i j, i < 68 → j < 68 → ad i = ad j → i = j) {σ : Dz} {post : Dz → Prop} (hp : P_X5_clear σ post) : Mz l D ad ty yX5_clear cX5_clear 1 none r_X5_clear nV0 σ [.ref (ad 1)] (fun _ τ => post τ) (fun _ _ => False) := by
  refine mz_of (by decide) hl hj (Nat.le_of_ble_eq_true rfl) ?_
  intro p e s m args below meth c K hex hr
  unfold P_X5_clear at hp
  show Gz p l e r_X5_clear s m args below meth c D ad ty 1 0 0 (Ez below D ad ty nV0 (fun _ τ => post τ) (fun _ _ => False) args s 0 0) σ 0 [(0, .ref (ad 1))] []
  refine gz_aload_n K dX5_clear_0 0 rfl ?_
  refine gz_iconst K (v := (0 : Int32)) dX5_clear_1 (by decide) ?_
  refine gz_put K (x := (0 : Int32)) (by decide) (ce_1 _ _ _ _ _ _) rfl inz_X5 tyX5 tyX5_ok nmX5 1 (by decide) zq1_39 rfl (tyX5_ok _ (by decide)) rfl rfl (Nat.le_of_ble_eq_true rfl) peX5_1 dX5_clear_2 ?_
  exact gz_vret K hr hp dX5_clear_5 (Nat.le_of_ble_eq_true rfl) (Nat.le_of_ble_eq_true rfl)
set_option maxRecDepth 100000 in
set_option maxHeartbeats 4000000 in
theorem c_X6_addInverseOf {l : Launch} {D : va_G} {ad : Nat → Nat} {ty : Nat → ClassId} (hl : l.stackTraces = false) (hj : ∀ i j, i < 68 → j < 68 → ad i = ad j → i = j) {σ : Dz} {w : Nat} {w1 : Nat} (hw : isW w) (h1 : isW w1) {post : Int32 → Dz → Prop} (hp : P_X6_addInverseOf σ w w1 post) : Mz l D ad ty yX6_addInverseOf cX6_addInverseOf 2 (some .boolean) r_X6_addInverseOf nI0 σ [.ref (ad w), .ref (ad w1)] post (fun _ _ => False) := by
  refine mz_of (by decide) hl hj (Nat.le_of_ble_eq_true rfl) ?_
  intro p e s m args below meth c K hex hr
  unfold P_X6_addInverseOf at hp
  show Gz p l e r_X6_addInverseOf s m args below meth c D ad ty 2 0 0 (Ez below D ad ty nI0 post (fun _ _ => False) args s 0 0) σ 0 [(0, .ref (ad w)), (1, .ref (ad w1))] []
  refine gz_aload_n K dX6_addInverseOf_0 0 rfl ?_
  refine gz_aload_n K dX6_addInverseOf_1 1 rfl ?_
  refine gz_iconst K (v := (0 : Int32)) dX6_addInverseOf_2 (by decide) ?_
  refine gz_aload_n K dX6_addInverseOf_3 1 rfl ?_
  refine gz_callV K hex (c_X6_length K.2.2.2.2.2 K.2.2.1 h1 hp) cf_X6_length zq2_107 (ceW h1).1 ((ceW h1).2 _ _ _ _ _ _) rfl dX6_addInverseOf_4 rfl rfl (Nat.le_of_ble_eq_true rfl) ⟨Nat.le_of_ble_eq_true rfl, Nat.le_of_ble_eq_true rfl⟩ ⟨Nat.le_of_ble_eq_true rfl, Nat.le_of_ble_eq_true rfl⟩ (Nat.le_of_ble_eq_true rfl) (Nat.le_of_ble_eq_true rfl) (fun _ _ h => h.elim) (fun r4 τ hp => ?_)
  obtain ⟨rfl, hp⟩ := hp
  refine gz_norm (st' := [.int r4, .int (0 : Int32), .ref (ad w1), .ref (ad w)]) (cells' := 0) (slots' := 0) rfl rfl rfl ?_
  refine gz_callV K hex (c_X6_addInverseOfPart K.2.2.2.2.2 K.2.2.1 hw h1 hp) cf_X6_addInverseOfPart zq3_170 (ceW hw).1 ((ceW hw).2 _ _ _ _ _ _) rfl dX6_addInverseOf_7 rfl rfl (Nat.le_of_ble_eq_true rfl) ⟨Nat.le_of_ble_eq_true rfl, Nat.le_of_ble_eq_true rfl⟩ ⟨Nat.le_of_ble_eq_true rfl, Nat.le_of_ble_eq_true rfl⟩ (Nat.le_of_ble_eq_true rfl) (Nat.le_of_ble_eq_true rfl) (fun _ _ h => h.elim) (fun r7 τ7 hp => ?_)
  refine gz_norm (st' := [.int r7]) (cells' := 0) (slots' := 0) rfl rfl rfl ?_
  exact gz_zret K hr (nB hp.1) hp.2 dX6_addInverseOf_10 (Nat.le_of_ble_eq_true rfl) (Nat.le_of_ble_eq_true rfl)
set_option maxRecDepth 100000 in
set_option maxHeartbeats 4000000 in
theorem c_X6_repeatFrom {l : Launch} {D : va_G} {ad : Nat → Nat} {ty : Nat → ClassId} (hl : l.stackTraces = false) (hj : ∀ i j, i < 68 → j < 68 → ad i = ad j → i = j) {σ : Dz} {w : Nat} (hw : isW w) {x1 : Int32} {x2 : Int32} {post : Int32 → Dz → Prop} (hp : P_X6_repeatFrom σ w x1 x2 post) : Mz l D ad ty yX6_repeatFrom cX6_repeatFrom 6 (some .boolean) r_X6_repeatFrom nI0 σ [.ref (ad w), .int x1, .int x2] post (fun _ _ => False) := by
  refine mz_of (by decide) hl hj (Nat.le_of_ble_eq_true rfl) ?_
  intro p e s m args below meth c K hex hr
  unfold P_X6_repeatFrom at hp
  show Gz p l e r_X6_repeatFrom s m args below meth c D ad ty 6 0 0 (Ez below D ad ty nI0 post (fun _ _ => False) args s 0 0) σ 0 [(0, .ref (ad w)), (1, .int x1), (2, .int x2)] []
  refine gz_aload_n K dX6_repeatFrom_0 0 rfl ?_
  refine gz_get K (v := .int (gz_i σ w 1)) (ceW hw).1 ((ceW hw).2 _ _ _ _ _ _) rfl inz_X6 1 (by decide) zq1_173 rfl dX6_repeatFrom_1 ?_
  refine gz_istore_n K [(3, .int (gz_i σ w 1)), (0, .ref (ad w)), (1, .int x1), (2, .int x2)] dX6_repeatFrom_4 (by decide) rfl ?_
  refine gz_iconst K (v := (1 : Int32)) dX6_repeatFrom_5 (by decide) ?_
  refine gz_istore K [(4, .int (1 : Int32)), (3, .int (gz_i σ w 1)), (0, .ref (ad w)), (1, .int x1), (2, .int x2)] dX6_repeatFrom_6 (by decide) rfl ?_
  refine gz_iconst K (v := (1 : Int32)) dX6_repeatFrom_8 (by decide) ?_
  refine gz_istore K [(5, .int (1 : Int32)), (4, .int (1 : Int32)), (3, .int (gz_i σ w 1)), (0, .ref (ad w)), (1, .int x1), (2, .int x2)] dX6_repeatFrom_9 (by decide) rfl ?_
  refine gz_sub [3, 4, 5, 2, 1, 0] rfl ?_
  have ll_11 : ∀ (n_11 : Nat) (σ : Dz) (y1 : Int32) (y2 : Int32) (y3 : Int32) (y4 : Int32) (y5 : Int32) , L_X6_repeatFrom_11 w post  n_11 σ y1 y2 y3 y4 y5 → Gz p l e r_X6_repeatFrom s m args below meth c D ad ty 6 0 0 (Ez below D ad ty nI0 post (fun _ _ => False) args s 0 0) σ 11 [(0, .ref (ad w)), (1, .int y1), (2, .int y2), (3, .int y3), (4, .int y4), (5, .int y5)] [] := by
    intro n_11; induction n_11 with
    | zero => intro σ y1 y2 y3 y4 y5 hp; exact False.elim hp
    | succ n_11 ih_11 =>
      intro σ y1 y2 y3 y4 y5 hp
      have hp : B_X6_repeatFrom_11 w post  (L_X6_repeatFrom_11 w post  n_11) σ y1 y2 y3 y4 y5 := hp
      unfold B_X6_repeatFrom_11 at hp
      refine gz_iload K dX6_repeatFrom_11 4 rfl ?_
      refine gz_if_eq K 37 dX6_repeatFrom_13 (by decide) (fun h => ?_) (fun h => ?_)
      · have hp := hp.1 h
        refine gz_iload K dX6_repeatFrom_37 4 rfl ?_
        exact gz_zret K hr (nB hp.1) hp.2 dX6_repeatFrom_39 (Nat.le_of_ble_eq_true rfl) (Nat.le_of_ble_eq_true rfl)
      · have hp := hp.2 h
        refine gz_iload K dX6_repeatFrom_16 5 rfl ?_
        refine gz_iload_n K dX6_repeatFrom_18 2 rfl ?_
        refine gz_icmp_ge K 37 dX6_repeatFrom_19 (by decide) (fun h => ?_) (fun h => ?_)
        · have hp := hp.1 h
          refine gz_iload K dX6_repeatFrom_37 4 rfl ?_
          exact gz_zret K hr (nB hp.1) hp.2 dX6_repeatFrom_39 (Nat.le_of_ble_eq_true rfl) (Nat.le_of_ble_eq_true rfl)
        · have hp := hp.2 h
          refine gz_aload_n K dX6_repeatFrom_22 0 rfl ?_
          refine gz_aload_n K dX6_repeatFrom_23 0 rfl ?_
          refine gz_iload_n K dX6_repeatFrom_24 1 rfl ?_
          refine gz_iload_n K dX6_repeatFrom_25 3 rfl ?_
          refine gz_callV K hex (c_X6_addPart K.2.2.2.2.2 K.2.2.1 hw hw hp) cf_X6_addPart zq2_111 (ceW hw).1 ((ceW hw).2 _ _ _ _ _ _) rfl dX6_repeatFrom_26 rfl rfl (Nat.le_of_ble_eq_true rfl) ⟨Nat.le_of_ble_eq_true rfl, Nat.le_of_ble_eq_true rfl⟩ ⟨Nat.le_of_ble_eq_true rfl, Nat.le_of_ble_eq_true rfl⟩ (Nat.le_of_ble_eq_true rfl) (Nat.le_of_ble_eq_true rfl) (fun _ _ h => h.elim) (fun r26 τ26 hp => ?_)
          refine gz_norm (st' := [.int r26]) (cells' := 0) (slots' := 0) rfl rfl rfl ?_
          refine gz_istore K [(4, .int r26), (0, .ref (ad w)), (1, .int y1), (2, .int y2), (3, .int y3), (5, .int y5)] dX6_repeatFrom_29 (by decide) rfl ?_
          refine gz_iinc K (v := (y5 + 1)) [(5, .int (y5 + 1)), (4, .int r26), (0, .ref (ad w)), (1, .int y1), (2, .int y2), (3, .int y3)] dX6_repeatFrom_31 5 rfl (by first | rfl | decide) (by decide) rfl ?_
          refine gz_goto K 11 dX6_repeatFrom_34 (by decide) ?_
          refine gz_sub [2, 3, 4, 5, 1, 0] rfl ?_
          exact ih_11 τ26 y1 y2 y3 r26 (y5 + 1)  hp
  obtain ⟨n, hp⟩ := hp
  exact ll_11 n σ x1 x2 (gz_i σ w 1) (1 : Int32) (1 : Int32)  hp
set_option maxRecDepth 100000 in
set_option maxHeartbeats 4000000 in
theorem c_X6_invertFrom {l : Launch} {D : va_G} {ad : Nat → Nat} {ty : Nat → ClassId} (hl : l.stackTraces = false) (hj : ∀ i j, i < 68 → j < 68 → ad i = ad j → i = j) {σ : Dz} {w : Nat} (hw : isW w) {x1 : Int32} {post : Dz → Prop} (hp : P_X6_invertFrom σ w x1 post) : Mz l D ad ty yX6_invertFrom cX6_invertFrom 5 none r_X6_invertFrom nV0 σ [.ref (ad w), .int x1] (fun _ τ => post τ) (fun _ _ => False) := by
  refine mz_of (by decide) hl hj (Nat.le_of_ble_eq_true rfl) ?_
  intro p e s m args below meth c K hex hr
  unfold P_X6_invertFrom at hp
  show Gz p l e r_X6_invertFrom s m args below meth c D ad ty 5 0 0 (Ez below D ad ty nV0 (fun _ τ => post τ) (fun _ _ => False) args s 0 0) σ 0 [(0, .ref (ad w)), (1, .int x1)] []
  refine gz_iload_n K dX6_invertFrom_0 1 rfl ?_
  refine gz_if_ge K 5 dX6_invertFrom_1 (by decide) (fun h => ?_) (fun h => ?_)
  · have hp := hp.1 h
    refine gz_aload_n K dX6_invertFrom_5 0 rfl ?_
    refine gz_get K (v := .int (gz_i σ w 1)) (ceW hw).1 ((ceW hw).2 _ _ _ _ _ _) rfl inz_X6 1 (by decide) zq1_173 rfl dX6_invertFrom_6 ?_
    refine gz_iconst K (v := (1 : Int32)) dX6_invertFrom_9 (by decide) ?_
    refine gz_isub K dX6_invertFrom_10 ?_
    refine gz_istore_n K [(2, .int ((gz_i σ w 1) - (1 : Int32))), (0, .ref (ad w)), (1, .int x1)] dX6_invertFrom_11 (by decide) rfl ?_
    refine gz_iload_n K dX6_invertFrom_12 2 rfl ?_
    refine gz_istore_n K [(3, .int x1), (2, .int ((gz_i σ w 1) - (1 : Int32))), (0, .ref (ad w)), (1, .int x1)] dX6_invertFrom_13 (by decide) rfl ?_
    refine gz_sub [2, 1, 0] rfl ?_
    have ll_14 : ∀ (n_14 : Nat) (σ : Dz) (y2 : Int32) (y3 : Int32) , L_X6_invertFrom_14 w post  n_14 σ y2 y3 → Gz p l e r_X6_invertFrom s m args below meth c D ad ty 5 0 0 (Ez below D ad ty nV0 (fun _ τ => post τ) (fun _ _ => False) args s 0 0) σ 14 [(0, .ref (ad w)), (2, .int y2), (3, .int y3)] [] := by
      intro n_14; induction n_14 with
      | zero => intro σ y2 y3 hp; exact False.elim hp
      | succ n_14 ih_14 =>
        intro σ y2 y3 hp
        have hp : B_X6_invertFrom_14 w post  (L_X6_invertFrom_14 w post  n_14) σ y2 y3 := hp
        unfold B_X6_invertFrom_14 at hp
        refine gz_iload_n K dX6_invertFrom_14 2 rfl ?_
        refine gz_iload_n K dX6_invertFrom_15 1 rfl ?_
        refine gz_icmp_gt K 60 dX6_invertFrom_16 (by decide) (fun h => ?_) (fun h => ?_)
        · have hp := hp.1 h
          exact gz_vret K hr hp dX6_invertFrom_60 (Nat.le_of_ble_eq_true rfl) (Nat.le_of_ble_eq_true rfl)
        · have hp := hp.2 h
          refine gz_aload_n K dX6_invertFrom_19 0 rfl ?_
          refine gz_get K (v := .ref (ad (w + 1))) (ceW hw).1 ((ceW hw).2 _ _ _ _ _ _) rfl inz_X6 0 (by decide) zq1_172 rfl dX6_invertFrom_20 ?_
          refine gz_iload_n K dX6_invertFrom_23 1 rfl ?_
          obtain ⟨h, hp⟩ := hp
          refine gz_iald K (caW hw).1 ((caW hw).2 _ _ _ _ _ _) h dX6_invertFrom_24 ?_
          refine gz_iconst K (v := (1 : Int32)) dX6_invertFrom_25 (by decide) ?_
          refine gz_ixor K dX6_invertFrom_26 ?_
          refine gz_istore K [(4, .int ((gz_i σ (w + 1) (y2).toNatClampNeg) ^^^ (1 : Int32))), (0, .ref (ad w)), (2, .int y2), (3, .int y3)] dX6_invertFrom_27 (by decide) rfl ?_
          refine gz_aload_n K dX6_invertFrom_29 1 rfl ?_
          refine gz_get K (v := .ref (ad (w + 1))) (ceW hw).1 ((ceW hw).2 _ _ _ _ _ _) rfl inz_X6 0 (by decide) zq1_172 rfl dX6_invertFrom_30 ?_
          refine gz_iload_n K dX6_invertFrom_33 2 rfl ?_
          refine gz_aload_n K dX6_invertFrom_34 1 rfl ?_
          refine gz_get K (v := .ref (ad (w + 1))) (ceW hw).1 ((ceW hw).2 _ _ _ _ _ _) rfl inz_X6 0 (by decide) zq1_172 rfl dX6_invertFrom_35 ?_
          refine gz_iload_n K dX6_invertFrom_38 3 rfl ?_
          obtain ⟨h, hp⟩ := hp
          refine gz_iald K (caW hw).1 ((caW hw).2 _ _ _ _ _ _) h dX6_invertFrom_39 ?_
          refine gz_iconst K (v := (1 : Int32)) dX6_invertFrom_40 (by decide) ?_
          refine gz_ixor K dX6_invertFrom_41 ?_
          obtain ⟨h, hp⟩ := hp
          refine gz_iast K (x := ((gz_i σ (w + 1) (y3).toNatClampNeg) ^^^ (1 : Int32))) (caW hw).1 ((caW hw).2 ad ty) h dX6_invertFrom_42 ?_
          refine gz_aload_n K dX6_invertFrom_43 1 rfl ?_
          refine gz_get K (v := .ref (ad (w + 1))) (ceW hw).1 ((ceW hw).2 _ _ _ _ _ _) rfl inz_X6 0 (by decide) zq1_172 rfl dX6_invertFrom_44 ?_
          refine gz_iload_n K dX6_invertFrom_47 3 rfl ?_
          refine gz_iload K dX6_invertFrom_48 0 rfl ?_
          obtain ⟨h, hp⟩ := hp
          refine gz_iast K (x := ((gz_i σ (w + 1) (y2).toNatClampNeg) ^^^ (1 : Int32))) (caW hw).1 ((caW hw).2 ad ty) h dX6_invertFrom_50 ?_
          refine gz_iinc K (v := (y2 + (-1))) [(2, .int (y2 + (-1))), (4, .int ((gz_i σ (w + 1) (y2).toNatClampNeg) ^^^ (1 : Int32))), (0, .ref (ad w)), (3, .int y3)] dX6_invertFrom_51 2 rfl (by first | rfl | decide) (by decide) rfl ?_
          refine gz_iinc K (v := (y3 + 1)) [(3, .int (y3 + 1)), (2, .int (y2 + (-1))), (4, .int ((gz_i σ (w + 1) (y2).toNatClampNeg) ^^^ (1 : Int32))), (0, .ref (ad w))] dX6_invertFrom_54 3 rfl (by first | rfl | decide) (by decide) rfl ?_
          refine gz_goto K 14 dX6_invertFrom_57 (by decide) ?_
          refine gz_sub [3, 1, 0] rfl ?_
          exact ih_14 (sz_i (sz_i σ (w + 1) (y2).toNatClampNeg ((gz_i σ (w + 1) (y3).toNatClampNeg) ^^^ (1 : Int32))) (w + 1) (y3).toNatClampNeg ((gz_i σ (w + 1) (y2).toNatClampNeg) ^^^ (1 : Int32))) (y2 + (-1)) (y3 + 1)  hp
    obtain ⟨n, hp⟩ := hp
    exact ll_14 n σ ((gz_i σ w 1) - (1 : Int32)) x1  hp
  · have hp := hp.2 h
    exact gz_vret K hr hp dX6_invertFrom_4 (Nat.le_of_ble_eq_true rfl) (Nat.le_of_ble_eq_true rfl)
set_option maxRecDepth 100000 in
set_option maxHeartbeats 4000000 in
theorem c_X7_begins {l : Launch} {D : va_G} {ad : Nat → Nat} {ty : Nat → ClassId} (hl : l.stackTraces = false) (hj : ∀ i j, i < 68 → j < 68 → ad i = ad j → i = j) {σ : Dz} {x1 : Int32} {post : Int32 → Dz → Prop} (hp : P_X7_begins σ x1 post) : Mz l D ad ty yX7_begins cX7_begins 2 (some .boolean) r_X7_begins nI0 σ [.ref (ad 4), .int x1] post (fun _ _ => False) := by
  refine mz_of (by decide) hl hj (Nat.le_of_ble_eq_true rfl) ?_
  intro p e s m args below meth c K hex hr
  unfold P_X7_begins at hp
  show Gz p l e r_X7_begins s m args below meth c D ad ty 2 0 0 (Ez below D ad ty nI0 post (fun _ _ => False) args s 0 0) σ 0 [(0, .ref (ad 4)), (1, .int x1)] []
  refine gz_aload_n K dX7_begins_0 0 rfl ?_
  refine gz_get K (v := .int (gz_i σ 4 1)) (by decide) (ce_4 _ _ _ _ _ _) rfl inz_X7 1 (by decide) zq1_79 rfl dX7_begins_1 ?_
  refine gz_if_lt K 19 dX7_begins_4 (by decide) (fun h => ?_) (fun h => ?_)
  · have hp := hp.1 h
    refine gz_iconst K (v := (0 : Int32)) dX7_begins_19 (by decide) ?_
    exact gz_zret K hr (by decide) hp dX7_begins_20 (Nat.le_of_ble_eq_true rfl) (Nat.le_of_ble_eq_true rfl)
  · have hp := hp.2 h
    refine gz_aload_n K dX7_begins_7 0 rfl ?_
    refine gz_get K (v := .int (gz_i σ 4 1)) (by decide) (ce_4 _ _ _ _ _ _) rfl inz_X7 1 (by decide) zq1_79 rfl dX7_begins_8 ?_
    refine gz_aload_n K dX7_begins_11 0 rfl ?_
    refine gz_get K (v := .ref (ad 5)) (by decide) (ce_4 _ _ _ _ _ _) rfl inz_X7 0 (by decide) zq1_78 rfl dX7_begins_12 ?_
    refine gz_alen K (v := (6 : Int32)) 0 rfl (by decide) (ce_5 _ _ _ _ _ _) (by decide) dX7_begins_15 ?_
    refine gz_icmp_lt K 21 dX7_begins_16 (by decide) (fun h => ?_) (fun h => ?_)
    · have hp := hp.1 h
      refine gz_aload_n K dX7_begins_21 0 rfl ?_
      refine gz_get K (v := .ref (ad 5)) (by decide) (ce_4 _ _ _ _ _ _) rfl inz_X7 0 (by decide) zq1_78 rfl dX7_begins_22 ?_
      refine gz_aload_n K dX7_begins_25 0 rfl ?_
      refine gz_get K (v := .int (gz_i σ 4 1)) (by decide) (ce_4 _ _ _ _ _ _) rfl inz_X7 1 (by decide) zq1_79 rfl dX7_begins_26 ?_
      refine gz_iload_n K dX7_begins_29 1 rfl ?_
      obtain ⟨hb30, hp⟩ := hp
      obtain ⟨h, hp⟩ := hp
      refine gz_castC K (x := x1) (by decide) (ce_5 ad ty) h hb30 dX7_begins_30 ?_
      refine gz_aload_n K dX7_begins_31 0 rfl ?_
      refine gz_dup K dX7_begins_32 rfl ?_
      refine gz_get K (v := .int (gz_i (sz_i σ 5 ((gz_i σ 4 1)).toNatClampNeg x1) 4 1)) (by decide) (ce_4 _ _ _ _ _ _) rfl inz_X7 1 (by decide) zq1_79 rfl dX7_begins_33 ?_
      refine gz_iconst K (v := (1 : Int32)) dX7_begins_36 (by decide) ?_
      refine gz_iadd K dX7_begins_37 ?_
      refine gz_put K (x := ((gz_i (sz_i σ 5 ((gz_i σ 4 1)).toNatClampNeg x1) 4 1) + (1 : Int32))) (by decide) (ce_4 _ _ _ _ _ _) rfl inz_X7 tyX7 tyX7_ok nmX7 1 (by decide) zq1_79 rfl (tyX7_ok _ (by decide)) rfl rfl (Nat.le_of_ble_eq_true rfl) peX7_1 dX7_begins_38 ?_
      refine gz_aload_n K dX7_begins_41 0 rfl ?_
      refine gz_iconst K (v := (0 : Int32)) dX7_begins_42 (by decide) ?_
      refine gz_put K (x := (0 : Int32)) (by decide) (ce_4 _ _ _ _ _ _) rfl inz_X7 tyX7 tyX7_ok nmX7 2 (by decide) zq1_80 rfl (tyX7_ok _ (by decide)) rfl rfl (Nat.le_of_ble_eq_true rfl) peX7_2 dX7_begins_43 ?_
      refine gz_iconst K (v := (1 : Int32)) dX7_begins_46 (by decide) ?_
      exact gz_zret K hr (by decide) hp dX7_begins_47 (Nat.le_of_ble_eq_true rfl) (Nat.le_of_ble_eq_true rfl)
    · have hp := hp.2 h
      refine gz_iconst K (v := (0 : Int32)) dX7_begins_19 (by decide) ?_
      exact gz_zret K hr (by decide) hp dX7_begins_20 (Nat.le_of_ble_eq_true rfl) (Nat.le_of_ble_eq_true rfl)
set_option maxRecDepth 100000 in
set_option maxHeartbeats 4000000 in
theorem c_X7_ends {l : Launch} {D : va_G} {ad : Nat → Nat} {ty : Nat → ClassId} (hl : l.stackTraces = false) (hj : ∀ i j, i < 68 → j < 68 → ad i = ad j → i = j) {σ : Dz} {x1 : Int32} {post : Int32 → Dz → Prop} (hp : P_X7_ends σ x1 post) : Mz l D ad ty yX7_ends cX7_ends 2 (some .boolean) r_X7_ends nI0 σ [.ref (ad 4), .int x1] post (fun _ _ => False) := by
  refine mz_of (by decide) hl hj (Nat.le_of_ble_eq_true rfl) ?_
  intro p e s m args below meth c K hex hr
  unfold P_X7_ends at hp
  show Gz p l e r_X7_ends s m args below meth c D ad ty 2 0 0 (Ez below D ad ty nI0 post (fun _ _ => False) args s 0 0) σ 0 [(0, .ref (ad 4)), (1, .int x1)] []
  refine gz_aload_n K dX7_ends_0 0 rfl ?_
  refine gz_get K (v := .int (gz_i σ 4 1)) (by decide) (ce_4 _ _ _ _ _ _) rfl inz_X7 1 (by decide) zq1_79 rfl dX7_ends_1 ?_
  refine gz_if_le K 34 dX7_ends_4 (by decide) (fun h => ?_) (fun h => ?_)
  · have hp := hp.1 h
    refine gz_iconst K (v := (0 : Int32)) dX7_ends_34 (by decide) ?_
    exact gz_zret K hr (by decide) hp dX7_ends_35 (Nat.le_of_ble_eq_true rfl) (Nat.le_of_ble_eq_true rfl)
  · have hp := hp.2 h
    refine gz_aload_n K dX7_ends_7 0 rfl ?_
    refine gz_get K (v := .int (gz_i σ 4 1)) (by decide) (ce_4 _ _ _ _ _ _) rfl inz_X7 1 (by decide) zq1_79 rfl dX7_ends_8 ?_
    refine gz_aload_n K dX7_ends_11 0 rfl ?_
    refine gz_get K (v := .ref (ad 5)) (by decide) (ce_4 _ _ _ _ _ _) rfl inz_X7 0 (by decide) zq1_78 rfl dX7_ends_12 ?_
    refine gz_alen K (v := (6 : Int32)) 0 rfl (by decide) (ce_5 _ _ _ _ _ _) (by decide) dX7_ends_15 ?_
    refine gz_icmp_gt K 34 dX7_ends_16 (by decide) (fun h => ?_) (fun h => ?_)
    · have hp := hp.1 h
      refine gz_iconst K (v := (0 : Int32)) dX7_ends_34 (by decide) ?_
      exact gz_zret K hr (by decide) hp dX7_ends_35 (Nat.le_of_ble_eq_true rfl) (Nat.le_of_ble_eq_true rfl)
    · have hp := hp.2 h
      refine gz_aload_n K dX7_ends_19 0 rfl ?_
      refine gz_get K (v := .ref (ad 5)) (by decide) (ce_4 _ _ _ _ _ _) rfl inz_X7 0 (by decide) zq1_78 rfl dX7_ends_20 ?_
      refine gz_aload_n K dX7_ends_23 0 rfl ?_
      refine gz_get K (v := .int (gz_i σ 4 1)) (by decide) (ce_4 _ _ _ _ _ _) rfl inz_X7 1 (by decide) zq1_79 rfl dX7_ends_24 ?_
      refine gz_iconst K (v := (1 : Int32)) dX7_ends_27 (by decide) ?_
      refine gz_isub K dX7_ends_28 ?_
      obtain ⟨h, hp⟩ := hp
      refine gz_cald K (by decide) (ce_5 _ _ _ _ _ _) h dX7_ends_29 ?_
      refine gz_iload_n K dX7_ends_30 1 rfl ?_
      refine gz_icmp_eq K 36 dX7_ends_31 (by decide) (fun h => ?_) (fun h => ?_)
      · have hp := hp.1 h
        refine gz_aload_n K dX7_ends_36 0 rfl ?_
        refine gz_dup K dX7_ends_37 rfl ?_
        refine gz_get K (v := .int (gz_i σ 4 1)) (by decide) (ce_4 _ _ _ _ _ _) rfl inz_X7 1 (by decide) zq1_79 rfl dX7_ends_38 ?_
        refine gz_iconst K (v := (1 : Int32)) dX7_ends_41 (by decide) ?_
        refine gz_isub K dX7_ends_42 ?_
        refine gz_put K (x := ((gz_i σ 4 1) - (1 : Int32))) (by decide) (ce_4 _ _ _ _ _ _) rfl inz_X7 tyX7 tyX7_ok nmX7 1 (by decide) zq1_79 rfl (tyX7_ok _ (by decide)) rfl rfl (Nat.le_of_ble_eq_true rfl) peX7_1 dX7_ends_43 ?_
        refine gz_aload_n K dX7_ends_46 0 rfl ?_
        refine gz_iconst K (v := (2 : Int32)) dX7_ends_47 (by decide) ?_
        refine gz_put K (x := (2 : Int32)) (by decide) (ce_4 _ _ _ _ _ _) rfl inz_X7 tyX7 tyX7_ok nmX7 2 (by decide) zq1_80 rfl (tyX7_ok _ (by decide)) rfl rfl (Nat.le_of_ble_eq_true rfl) peX7_2 dX7_ends_48 ?_
        refine gz_iconst K (v := (1 : Int32)) dX7_ends_51 (by decide) ?_
        exact gz_zret K hr (by decide) hp dX7_ends_52 (Nat.le_of_ble_eq_true rfl) (Nat.le_of_ble_eq_true rfl)
      · have hp := hp.2 h
        refine gz_iconst K (v := (0 : Int32)) dX7_ends_34 (by decide) ?_
        exact gz_zret K hr (by decide) hp dX7_ends_35 (Nat.le_of_ble_eq_true rfl) (Nat.le_of_ble_eq_true rfl)
set_option maxRecDepth 100000 in
set_option maxHeartbeats 4000000 in
theorem c_X7_accepts {l : Launch} {D : va_G} {ad : Nat → Nat} {ty : Nat → ClassId} (hl : l.stackTraces = false) (hj : ∀ i j, i < 68 → j < 68 → ad i = ad j → i = j) {σ : Dz} {x1 : Int32} {post : Int32 → Dz → Prop} (hp : P_X7_accepts σ x1 post) : Mz l D ad ty yX7_accepts cX7_accepts 3 (some .boolean) r_X7_accepts nI0 σ [.ref (ad 4), .int x1] post (fun _ _ => False) := by
  refine mz_of (by decide) hl hj (Nat.le_of_ble_eq_true rfl) ?_
  intro p e s m args below meth c K hex hr
  unfold P_X7_accepts at hp
  have bb_138 : ∀ (σ : Dz) , B_X7_accepts_138 post  σ → Gz p l e r_X7_accepts s m args below meth c D ad ty 3 0 0 (Ez below D ad ty nI0 post (fun _ _ => False) args s 0 0) σ 138 [(0, .ref (ad 4))] [] := by
    intro σ hp
    unfold B_X7_accepts_138 at hp
    refine gz_iconst K (v := (0 : Int32)) dX7_accepts_138 (by decide) ?_
    refine gz_istore_n K [(2, .int (0 : Int32)), (0, .ref (ad 4))] dX7_accepts_139 (by decide) rfl ?_
    refine gz_aload_n K dX7_accepts_140 1 rfl ?_
    refine gz_iconst K (v := (0 : Int32)) dX7_accepts_141 (by decide) ?_
    refine gz_put K (x := (0 : Int32)) (by decide) (ce_4 _ _ _ _ _ _) rfl inz_X7 tyX7 tyX7_ok nmX7 2 (by decide) zq1_80 rfl (tyX7_ok _ (by decide)) rfl rfl (Nat.le_of_ble_eq_true rfl) peX7_2 dX7_accepts_142 ?_
    refine gz_iload_n K dX7_accepts_145 0 rfl ?_
    exact gz_zret K hr (by decide) hp dX7_accepts_146 (Nat.le_of_ble_eq_true rfl) (Nat.le_of_ble_eq_true rfl)
  show Gz p l e r_X7_accepts s m args below meth c D ad ty 3 0 0 (Ez below D ad ty nI0 post (fun _ _ => False) args s 0 0) σ 0 [(0, .ref (ad 4)), (1, .int x1)] []
  refine gz_iload_n K dX7_accepts_0 1 rfl ?_
  refine gz_callS K hex (c_X5_isName K.2.2.2.2.2 K.2.2.1 hp) cf_X5_isName zq3_118 dX7_accepts_1 rfl rfl (Nat.le_of_ble_eq_true rfl) ⟨Nat.le_of_ble_eq_true rfl, Nat.le_of_ble_eq_true rfl⟩ ⟨Nat.le_of_ble_eq_true rfl, Nat.le_of_ble_eq_true rfl⟩ (Nat.le_of_ble_eq_true rfl) (Nat.le_of_ble_eq_true rfl) (fun _ _ h => h.elim) (fun r1 τ hp => ?_)
  obtain ⟨rfl, hp⟩ := hp
  refine gz_norm (st' := [.int r1]) (cells' := 0) (slots' := 0) rfl rfl rfl ?_
  refine gz_if_eq K 14 dX7_accepts_4 (by decide) (fun h => ?_) (fun h => ?_)
  · have hp := hp.1 h
    refine gz_iload_n K dX7_accepts_14 1 rfl ?_
    refine gz_bipush K (v := (40 : Int32)) dX7_accepts_15 (by decide) ?_
    refine gz_icmp_eq K 26 dX7_accepts_17 (by decide) (fun h => ?_) (fun h => ?_)
    · have hp := hp.1 h
      refine gz_aload_n K dX7_accepts_26 0 rfl ?_
      refine gz_iload_n K dX7_accepts_27 1 rfl ?_
      refine gz_callV K hex (c_X7_begins K.2.2.2.2.2 K.2.2.1 hp) cf_X7_begins zq3_121 (by decide) (ce_4 _ _ _ _ _ _) rfl dX7_accepts_28 rfl rfl (Nat.le_of_ble_eq_true rfl) ⟨Nat.le_of_ble_eq_true rfl, Nat.le_of_ble_eq_true rfl⟩ ⟨Nat.le_of_ble_eq_true rfl, Nat.le_of_ble_eq_true rfl⟩ (Nat.le_of_ble_eq_true rfl) (Nat.le_of_ble_eq_true rfl) (fun _ _ h => h.elim) (fun r28 τ28 hp => ?_)
      refine gz_norm (st' := [.int r28]) (cells' := 0) (slots' := 0) rfl rfl rfl ?_
      exact gz_zret K hr (nB hp.1) hp.2 dX7_accepts_31 (Nat.le_of_ble_eq_true rfl) (Nat.le_of_ble_eq_true rfl)
    · have hp := hp.2 h
      refine gz_iload_n K dX7_accepts_20 1 rfl ?_
      refine gz_bipush K (v := (60 : Int32)) dX7_accepts_21 (by decide) ?_
      refine gz_icmp_ne K 32 dX7_accepts_23 (by decide) (fun h => ?_) (fun h => ?_)
      · have hp := hp.1 h
        refine gz_iload_n K dX7_accepts_32 1 rfl ?_
        refine gz_bipush K (v := (41 : Int32)) dX7_accepts_33 (by decide) ?_
        refine gz_icmp_ne K 45 dX7_accepts_35 (by decide) (fun h => ?_) (fun h => ?_)
        · have hp := hp.1 h
          refine gz_iload_n K dX7_accepts_45 1 rfl ?_
          refine gz_bipush K (v := (62 : Int32)) dX7_accepts_46 (by decide) ?_
          refine gz_icmp_ne K 58 dX7_accepts_48 (by decide) (fun h => ?_) (fun h => ?_)
          · have hp := hp.1 h
            refine gz_iload_n K dX7_accepts_58 1 rfl ?_
            refine gz_bipush K (v := (44 : Int32)) dX7_accepts_59 (by decide) ?_
            refine gz_icmp_ne K 88 dX7_accepts_61 (by decide) (fun h => ?_) (fun h => ?_)
            · have hp := hp.1 h
              refine gz_iload_n K dX7_accepts_88 1 rfl ?_
              refine gz_bipush K (v := (39 : Int32)) dX7_accepts_89 (by decide) ?_
              refine gz_icmp_ne K 115 dX7_accepts_91 (by decide) (fun h => ?_) (fun h => ?_)
              · have hp := hp.1 h
                refine gz_aload_n K dX7_accepts_115 0 rfl ?_
                refine gz_get K (v := .int (gz_i σ 4 2)) (by decide) (ce_4 _ _ _ _ _ _) rfl inz_X7 2 (by decide) zq1_80 rfl dX7_accepts_116 ?_
                refine gz_if_eq K 138 dX7_accepts_119 (by decide) (fun h => ?_) (fun h => ?_)
                · have hp := hp.1 h
                  refine gz_sub [0] rfl ?_
                  exact bb_138 σ  hp
                · have hp := hp.2 h
                  refine gz_iload_n K dX7_accepts_122 1 rfl ?_
                  refine gz_bipush K (v := (50 : Int32)) dX7_accepts_123 (by decide) ?_
                  refine gz_icmp_lt K 138 dX7_accepts_125 (by decide) (fun h => ?_) (fun h => ?_)
                  · have hp := hp.1 h
                    refine gz_sub [0] rfl ?_
                    exact bb_138 σ  hp
                  · have hp := hp.2 h
                    refine gz_iload_n K dX7_accepts_128 1 rfl ?_
                    refine gz_bipush K (v := (57 : Int32)) dX7_accepts_129 (by decide) ?_
                    refine gz_icmp_gt K 138 dX7_accepts_131 (by decide) (fun h => ?_) (fun h => ?_)
                    · have hp := hp.1 h
                      refine gz_sub [0] rfl ?_
                      exact bb_138 σ  hp
                    · have hp := hp.2 h
                      refine gz_iconst K (v := (1 : Int32)) dX7_accepts_134 (by decide) ?_
                      refine gz_goto K 139 dX7_accepts_135 (by decide) ?_
                      refine gz_istore_n K [(2, .int (1 : Int32)), (0, .ref (ad 4)), (1, .int x1)] dX7_accepts_139 (by decide) rfl ?_
                      refine gz_aload_n K dX7_accepts_140 1 rfl ?_
                      refine gz_iconst K (v := (0 : Int32)) dX7_accepts_141 (by decide) ?_
                      refine gz_put K (x := (0 : Int32)) (by decide) (ce_4 _ _ _ _ _ _) rfl inz_X7 tyX7 tyX7_ok nmX7 2 (by decide) zq1_80 rfl (tyX7_ok _ (by decide)) rfl rfl (Nat.le_of_ble_eq_true rfl) peX7_2 dX7_accepts_142 ?_
                      refine gz_iload_n K dX7_accepts_145 0 rfl ?_
                      exact gz_zret K hr (by decide) hp dX7_accepts_146 (Nat.le_of_ble_eq_true rfl) (Nat.le_of_ble_eq_true rfl)
              · have hp := hp.2 h
                refine gz_aload_n K dX7_accepts_94 0 rfl ?_
                refine gz_get K (v := .int (gz_i σ 4 2)) (by decide) (ce_4 _ _ _ _ _ _) rfl inz_X7 2 (by decide) zq1_80 rfl dX7_accepts_95 ?_
                refine gz_iconst K (v := (2 : Int32)) dX7_accepts_98 (by decide) ?_
                refine gz_icmp_ne K 106 dX7_accepts_99 (by decide) (fun h => ?_) (fun h => ?_)
                · have hp := hp.1 h
                  refine gz_iconst K (v := (0 : Int32)) dX7_accepts_106 (by decide) ?_
                  refine gz_istore_n K [(2, .int (0 : Int32)), (0, .ref (ad 4)), (1, .int x1)] dX7_accepts_107 (by decide) rfl ?_
                  refine gz_aload_n K dX7_accepts_108 1 rfl ?_
                  refine gz_iconst K (v := (1 : Int32)) dX7_accepts_109 (by decide) ?_
                  refine gz_put K (x := (1 : Int32)) (by decide) (ce_4 _ _ _ _ _ _) rfl inz_X7 tyX7 tyX7_ok nmX7 2 (by decide) zq1_80 rfl (tyX7_ok _ (by decide)) rfl rfl (Nat.le_of_ble_eq_true rfl) peX7_2 dX7_accepts_110 ?_
                  refine gz_iload_n K dX7_accepts_113 0 rfl ?_
                  exact gz_zret K hr (by decide) hp dX7_accepts_114 (Nat.le_of_ble_eq_true rfl) (Nat.le_of_ble_eq_true rfl)
                · have hp := hp.2 h
                  refine gz_iconst K (v := (1 : Int32)) dX7_accepts_102 (by decide) ?_
                  refine gz_goto K 107 dX7_accepts_103 (by decide) ?_
                  refine gz_istore_n K [(2, .int (1 : Int32)), (0, .ref (ad 4)), (1, .int x1)] dX7_accepts_107 (by decide) rfl ?_
                  refine gz_aload_n K dX7_accepts_108 1 rfl ?_
                  refine gz_iconst K (v := (1 : Int32)) dX7_accepts_109 (by decide) ?_
                  refine gz_put K (x := (1 : Int32)) (by decide) (ce_4 _ _ _ _ _ _) rfl inz_X7 tyX7 tyX7_ok nmX7 2 (by decide) zq1_80 rfl (tyX7_ok _ (by decide)) rfl rfl (Nat.le_of_ble_eq_true rfl) peX7_2 dX7_accepts_110 ?_
                  refine gz_iload_n K dX7_accepts_113 0 rfl ?_
                  exact gz_zret K hr (by decide) hp dX7_accepts_114 (Nat.le_of_ble_eq_true rfl) (Nat.le_of_ble_eq_true rfl)
            · have hp := hp.2 h
              refine gz_aload_n K dX7_accepts_64 0 rfl ?_
              refine gz_bipush K (v := (60 : Int32)) dX7_accepts_65 (by decide) ?_
              refine gz_callV K hex (c_X7_ends K.2.2.2.2.2 K.2.2.1 hp) cf_X7_ends zq3_125 (by decide) (ce_4 _ _ _ _ _ _) rfl dX7_accepts_67 rfl rfl (Nat.le_of_ble_eq_true rfl) ⟨Nat.le_of_ble_eq_true rfl, Nat.le_of_ble_eq_true rfl⟩ ⟨Nat.le_of_ble_eq_true rfl, Nat.le_of_ble_eq_true rfl⟩ (Nat.le_of_ble_eq_true rfl) (Nat.le_of_ble_eq_true rfl) (fun _ _ h => h.elim) (fun r67 τ67 hp => ?_)
              refine gz_norm (st' := [.int r67]) (cells' := 0) (slots' := 0) rfl rfl rfl ?_
              refine gz_if_eq K 86 dX7_accepts_70 (by decide) (fun h => ?_) (fun h => ?_)
              · have hp := hp.1 h
                refine gz_iconst K (v := (0 : Int32)) dX7_accepts_86 (by decide) ?_
                exact gz_zret K hr (by decide) hp dX7_accepts_87 (Nat.le_of_ble_eq_true rfl) (Nat.le_of_ble_eq_true rfl)
              · have hp := hp.2 h
                refine gz_aload_n K dX7_accepts_73 0 rfl ?_
                refine gz_bipush K (v := (44 : Int32)) dX7_accepts_74 (by decide) ?_
                refine gz_callV K hex (c_X7_begins K.2.2.2.2.2 K.2.2.1 hp) cf_X7_begins zq3_121 (by decide) (ce_4 _ _ _ _ _ _) rfl dX7_accepts_76 rfl rfl (Nat.le_of_ble_eq_true rfl) ⟨Nat.le_of_ble_eq_true rfl, Nat.le_of_ble_eq_true rfl⟩ ⟨Nat.le_of_ble_eq_true rfl, Nat.le_of_ble_eq_true rfl⟩ (Nat.le_of_ble_eq_true rfl) (Nat.le_of_ble_eq_true rfl) (fun _ _ h => h.elim) (fun r76 τ76 hp => ?_)
                refine gz_norm (st' := [.int r76]) (cells' := 0) (slots' := 0) rfl rfl rfl ?_
                refine gz_if_eq K 86 dX7_accepts_79 (by decide) (fun h => ?_) (fun h => ?_)
                · have hp := hp.1 h
                  refine gz_iconst K (v := (0 : Int32)) dX7_accepts_86 (by decide) ?_
                  exact gz_zret K hr (by decide) hp dX7_accepts_87 (Nat.le_of_ble_eq_true rfl) (Nat.le_of_ble_eq_true rfl)
                · have hp := hp.2 h
                  refine gz_iconst K (v := (1 : Int32)) dX7_accepts_82 (by decide) ?_
                  refine gz_goto K 87 dX7_accepts_83 (by decide) ?_
                  exact gz_zret K hr (by decide) hp dX7_accepts_87 (Nat.le_of_ble_eq_true rfl) (Nat.le_of_ble_eq_true rfl)
          · have hp := hp.2 h
            refine gz_aload_n K dX7_accepts_51 0 rfl ?_
            refine gz_bipush K (v := (44 : Int32)) dX7_accepts_52 (by decide) ?_
            refine gz_callV K hex (c_X7_ends K.2.2.2.2.2 K.2.2.1 hp) cf_X7_ends zq3_125 (by decide) (ce_4 _ _ _ _ _ _) rfl dX7_accepts_54 rfl rfl (Nat.le_of_ble_eq_true rfl) ⟨Nat.le_of_ble_eq_true rfl, Nat.le_of_ble_eq_true rfl⟩ ⟨Nat.le_of_ble_eq_true rfl, Nat.le_of_ble_eq_true rfl⟩ (Nat.le_of_ble_eq_true rfl) (Nat.le_of_ble_eq_true rfl) (fun _ _ h => h.elim) (fun r54 τ54 hp => ?_)
            refine gz_norm (st' := [.int r54]) (cells' := 0) (slots' := 0) rfl rfl rfl ?_
            exact gz_zret K hr (nB hp.1) hp.2 dX7_accepts_57 (Nat.le_of_ble_eq_true rfl) (Nat.le_of_ble_eq_true rfl)
        · have hp := hp.2 h
          refine gz_aload_n K dX7_accepts_38 0 rfl ?_
          refine gz_bipush K (v := (40 : Int32)) dX7_accepts_39 (by decide) ?_
          refine gz_callV K hex (c_X7_ends K.2.2.2.2.2 K.2.2.1 hp) cf_X7_ends zq3_125 (by decide) (ce_4 _ _ _ _ _ _) rfl dX7_accepts_41 rfl rfl (Nat.le_of_ble_eq_true rfl) ⟨Nat.le_of_ble_eq_true rfl, Nat.le_of_ble_eq_true rfl⟩ ⟨Nat.le_of_ble_eq_true rfl, Nat.le_of_ble_eq_true rfl⟩ (Nat.le_of_ble_eq_true rfl) (Nat.le_of_ble_eq_true rfl) (fun _ _ h => h.elim) (fun r41 τ41 hp => ?_)
          refine gz_norm (st' := [.int r41]) (cells' := 0) (slots' := 0) rfl rfl rfl ?_
          exact gz_zret K hr (nB hp.1) hp.2 dX7_accepts_44 (Nat.le_of_ble_eq_true rfl) (Nat.le_of_ble_eq_true rfl)
      · have hp := hp.2 h
        refine gz_aload_n K dX7_accepts_26 0 rfl ?_
        refine gz_iload_n K dX7_accepts_27 1 rfl ?_
        refine gz_callV K hex (c_X7_begins K.2.2.2.2.2 K.2.2.1 hp) cf_X7_begins zq3_121 (by decide) (ce_4 _ _ _ _ _ _) rfl dX7_accepts_28 rfl rfl (Nat.le_of_ble_eq_true rfl) ⟨Nat.le_of_ble_eq_true rfl, Nat.le_of_ble_eq_true rfl⟩ ⟨Nat.le_of_ble_eq_true rfl, Nat.le_of_ble_eq_true rfl⟩ (Nat.le_of_ble_eq_true rfl) (Nat.le_of_ble_eq_true rfl) (fun _ _ h => h.elim) (fun r28 τ28 hp => ?_)
        refine gz_norm (st' := [.int r28]) (cells' := 0) (slots' := 0) rfl rfl rfl ?_
        exact gz_zret K hr (nB hp.1) hp.2 dX7_accepts_31 (Nat.le_of_ble_eq_true rfl) (Nat.le_of_ble_eq_true rfl)
  · have hp := hp.2 h
    refine gz_aload_n K dX7_accepts_7 0 rfl ?_
    refine gz_iconst K (v := (2 : Int32)) dX7_accepts_8 (by decide) ?_
    refine gz_put K (x := (2 : Int32)) (by decide) (ce_4 _ _ _ _ _ _) rfl inz_X7 tyX7 tyX7_ok nmX7 2 (by decide) zq1_80 rfl (tyX7_ok _ (by decide)) rfl rfl (Nat.le_of_ble_eq_true rfl) peX7_2 dX7_accepts_9 ?_
    refine gz_iconst K (v := (1 : Int32)) dX7_accepts_12 (by decide) ?_
    exact gz_zret K hr (by decide) hp dX7_accepts_13 (Nat.le_of_ble_eq_true rfl) (Nat.le_of_ble_eq_true rfl)
set_option maxRecDepth 100000 in
set_option maxHeartbeats 4000000 in
theorem c_X7_errorIn {l : Launch} {D : va_G} {ad : Nat → Nat} {ty : Nat → ClassId} (hl : l.stackTraces = false) (hj : ∀ i j, i < 68 → j < 68 → ad i = ad j → i = j) {σ : Dz} {post : Int32 → Dz → Prop} (hp : P_X7_errorIn σ post) : Mz l D ad ty yX7_errorIn cX7_errorIn 3 (some .int) r_X7_errorIn nI0 σ [.ref (ad 4), .ref (ad 1)] post (fun _ _ => False) := by
  refine mz_of (by decide) hl hj (Nat.le_of_ble_eq_true rfl) ?_
  intro p e s m args below meth c K hex hr
  unfold P_X7_errorIn at hp
  show Gz p l e r_X7_errorIn s m args below meth c D ad ty 3 0 0 (Ez below D ad ty nI0 post (fun _ _ => False) args s 0 0) σ 0 [(0, .ref (ad 4)), (1, .ref (ad 1))] []
  refine gz_aload_n K dX7_errorIn_0 0 rfl ?_
  refine gz_iconst K (v := (0 : Int32)) dX7_errorIn_1 (by decide) ?_
  refine gz_put K (x := (0 : Int32)) (by decide) (ce_4 _ _ _ _ _ _) rfl inz_X7 tyX7 tyX7_ok nmX7 1 (by decide) zq1_79 rfl (tyX7_ok _ (by decide)) rfl rfl (Nat.le_of_ble_eq_true rfl) peX7_1 dX7_errorIn_2 ?_
  refine gz_aload_n K dX7_errorIn_5 0 rfl ?_
  refine gz_iconst K (v := (0 : Int32)) dX7_errorIn_6 (by decide) ?_
  refine gz_put K (x := (0 : Int32)) (by decide) (ce_4 _ _ _ _ _ _) rfl inz_X7 tyX7 tyX7_ok nmX7 2 (by decide) zq1_80 rfl (tyX7_ok _ (by decide)) rfl rfl (Nat.le_of_ble_eq_true rfl) peX7_2 dX7_errorIn_7 ?_
  refine gz_iconst K (v := (0 : Int32)) dX7_errorIn_10 (by decide) ?_
  refine gz_istore_n K [(2, .int (0 : Int32)), (0, .ref (ad 4)), (1, .ref (ad 1))] dX7_errorIn_11 (by decide) rfl ?_
  refine gz_sub [1, 2, 0] rfl ?_
  have ll_12 : ∀ (n_12 : Nat) (σ : Dz) (y2 : Int32) , L_X7_errorIn_12 post  n_12 σ y2 → Gz p l e r_X7_errorIn s m args below meth c D ad ty 3 0 0 (Ez below D ad ty nI0 post (fun _ _ => False) args s 0 0) σ 12 [(0, .ref (ad 4)), (1, .ref (ad 1)), (2, .int y2)] [] := by
    intro n_12; induction n_12 with
    | zero => intro σ y2 hp; exact False.elim hp
    | succ n_12 ih_12 =>
      intro σ y2 hp
      have hp : B_X7_errorIn_12 post  (L_X7_errorIn_12 post  n_12) σ y2 := hp
      unfold B_X7_errorIn_12 at hp
      refine gz_iload_n K dX7_errorIn_12 2 rfl ?_
      refine gz_aload_n K dX7_errorIn_13 1 rfl ?_
      refine gz_callV K hex (c_X5_length K.2.2.2.2.2 K.2.2.1 hp) cf_X5_length zq3_112 (by decide) (ce_1 _ _ _ _ _ _) rfl dX7_errorIn_14 rfl rfl (Nat.le_of_ble_eq_true rfl) ⟨Nat.le_of_ble_eq_true rfl, Nat.le_of_ble_eq_true rfl⟩ ⟨Nat.le_of_ble_eq_true rfl, Nat.le_of_ble_eq_true rfl⟩ (Nat.le_of_ble_eq_true rfl) (Nat.le_of_ble_eq_true rfl) (fun _ _ h => h.elim) (fun r14 τ hp => ?_)
      obtain ⟨rfl, hp⟩ := hp
      refine gz_norm (st' := [.int r14, .int y2]) (cells' := 0) (slots' := 0) rfl rfl rfl ?_
      refine gz_icmp_ge K 40 dX7_errorIn_17 (by decide) (fun h => ?_) (fun h => ?_)
      · have hp := hp.1 h
        refine gz_aload_n K dX7_errorIn_40 0 rfl ?_
        refine gz_get K (v := .int (gz_i σ 4 1)) (by decide) (ce_4 _ _ _ _ _ _) rfl inz_X7 1 (by decide) zq1_79 rfl dX7_errorIn_41 ?_
        refine gz_if_le K 54 dX7_errorIn_44 (by decide) (fun h => ?_) (fun h => ?_)
        · have hp := hp.1 h
          refine gz_iconst K (v := (-1 : Int32)) dX7_errorIn_54 (by decide) ?_
          exact gz_iret K hr hp dX7_errorIn_55 (Nat.le_of_ble_eq_true rfl) (Nat.le_of_ble_eq_true rfl)
        · have hp := hp.2 h
          refine gz_aload_n K dX7_errorIn_47 1 rfl ?_
          refine gz_callV K hex (c_X5_length K.2.2.2.2.2 K.2.2.1 hp) cf_X5_length zq3_112 (by decide) (ce_1 _ _ _ _ _ _) rfl dX7_errorIn_48 rfl rfl (Nat.le_of_ble_eq_true rfl) ⟨Nat.le_of_ble_eq_true rfl, Nat.le_of_ble_eq_true rfl⟩ ⟨Nat.le_of_ble_eq_true rfl, Nat.le_of_ble_eq_true rfl⟩ (Nat.le_of_ble_eq_true rfl) (Nat.le_of_ble_eq_true rfl) (fun _ _ h => h.elim) (fun r48 τ hp => ?_)
          obtain ⟨rfl, hp⟩ := hp
          refine gz_norm (st' := [.int r48]) (cells' := 0) (slots' := 0) rfl rfl rfl ?_
          refine gz_goto K 55 dX7_errorIn_51 (by decide) ?_
          exact gz_iret K hr hp dX7_errorIn_55 (Nat.le_of_ble_eq_true rfl) (Nat.le_of_ble_eq_true rfl)
      · have hp := hp.2 h
        refine gz_aload_n K dX7_errorIn_20 0 rfl ?_
        refine gz_aload_n K dX7_errorIn_21 1 rfl ?_
        refine gz_iload_n K dX7_errorIn_22 2 rfl ?_
        refine gz_callV K hex (c_X5_at K.2.2.2.2.2 K.2.2.1 hp) cf_X5_at zq3_113 (by decide) (ce_1 _ _ _ _ _ _) rfl dX7_errorIn_23 rfl rfl (Nat.le_of_ble_eq_true rfl) ⟨Nat.le_of_ble_eq_true rfl, Nat.le_of_ble_eq_true rfl⟩ ⟨Nat.le_of_ble_eq_true rfl, Nat.le_of_ble_eq_true rfl⟩ (Nat.le_of_ble_eq_true rfl) (Nat.le_of_ble_eq_true rfl) (fun _ _ h => h.elim) (fun r23 τ hp => ?_)
        obtain ⟨rfl, hp⟩ := hp
        refine gz_norm (st' := [.int r23, .ref (ad 4)]) (cells' := 0) (slots' := 0) rfl rfl rfl ?_
        refine gz_callV K hex (c_X7_accepts K.2.2.2.2.2 K.2.2.1 hp) cf_X7_accepts zq3_114 (by decide) (ce_4 _ _ _ _ _ _) rfl dX7_errorIn_26 rfl rfl (Nat.le_of_ble_eq_true rfl) ⟨Nat.le_of_ble_eq_true rfl, Nat.le_of_ble_eq_true rfl⟩ ⟨Nat.le_of_ble_eq_true rfl, Nat.le_of_ble_eq_true rfl⟩ (Nat.le_of_ble_eq_true rfl) (Nat.le_of_ble_eq_true rfl) (fun _ _ h => h.elim) (fun r26 τ26 hp => ?_)
        refine gz_norm (st' := [.int r26]) (cells' := 0) (slots' := 0) rfl rfl rfl ?_
        refine gz_if_ne K 34 dX7_errorIn_29 (by decide) (fun h => ?_) (fun h => ?_)
        · have hp := hp.1 h
          refine gz_iinc K (v := (y2 + 1)) [(2, .int (y2 + 1)), (0, .ref (ad 4)), (1, .ref (ad 1))] dX7_errorIn_34 2 rfl (by first | rfl | decide) (by decide) rfl ?_
          refine gz_goto K 12 dX7_errorIn_37 (by decide) ?_
          refine gz_sub [1, 2, 0] rfl ?_
          exact ih_12 τ26 (y2 + 1)  hp
        · have hp := hp.2 h
          refine gz_iload_n K dX7_errorIn_32 2 rfl ?_
          exact gz_iret K hr hp dX7_errorIn_33 (Nat.le_of_ble_eq_true rfl) (Nat.le_of_ble_eq_true rfl)
  obtain ⟨n, hp⟩ := hp
  exact ll_12 n (sz_i (sz_i σ 4 1 (0 : Int32)) 4 2 (0 : Int32)) (0 : Int32)  hp
set_option maxRecDepth 100000 in
set_option maxHeartbeats 4000000 in
theorem c_X8_begin {l : Launch} {D : va_G} {ad : Nat → Nat} {ty : Nat → ClassId} (hl : l.stackTraces = false) (hj : ∀ i j, i < 68 → j < 68 → ad i = ad j → i = j) {σ : Dz} {x1 : Int32} {post : Int32 → Dz → Prop} (hp : P_X8_begin σ x1 post) : Mz l D ad ty yX8_begin cX8_begin 2 (some .boolean) r_X8_begin nI0 σ [.ref (ad 6), .int x1] post (fun _ _ => False) := by
  refine mz_of (by decide) hl hj (Nat.le_of_ble_eq_true rfl) ?_
  intro p e s m args below meth c K hex hr
  unfold P_X8_begin at hp
  show Gz p l e r_X8_begin s m args below meth c D ad ty 2 0 0 (Ez below D ad ty nI0 post (fun _ _ => False) args s 0 0) σ 0 [(0, .ref (ad 6)), (1, .int x1)] []
  refine gz_aload_n K dX8_begin_0 0 rfl ?_
  refine gz_get K (v := .int (gz_i σ 6 2)) (by decide) (ce_6 _ _ _ _ _ _) rfl inz_X8 2 (by decide) zq1_96 rfl dX8_begin_1 ?_
  refine gz_if_lt K 19 dX8_begin_4 (by decide) (fun h => ?_) (fun h => ?_)
  · have hp := hp.1 h
    refine gz_iconst K (v := (0 : Int32)) dX8_begin_19 (by decide) ?_
    exact gz_zret K hr (by decide) hp dX8_begin_20 (Nat.le_of_ble_eq_true rfl) (Nat.le_of_ble_eq_true rfl)
  · have hp := hp.2 h
    refine gz_aload_n K dX8_begin_7 0 rfl ?_
    refine gz_get K (v := .int (gz_i σ 6 2)) (by decide) (ce_6 _ _ _ _ _ _) rfl inz_X8 2 (by decide) zq1_96 rfl dX8_begin_8 ?_
    refine gz_aload_n K dX8_begin_11 0 rfl ?_
    refine gz_get K (v := .ref (ad 7)) (by decide) (ce_6 _ _ _ _ _ _) rfl inz_X8 0 (by decide) zq1_94 rfl dX8_begin_12 ?_
    refine gz_alen K (v := (6 : Int32)) 3 rfl (by decide) (ce_7 _ _ _ _ _ _) (by decide) dX8_begin_15 ?_
    refine gz_icmp_lt K 21 dX8_begin_16 (by decide) (fun h => ?_) (fun h => ?_)
    · have hp := hp.1 h
      refine gz_aload_n K dX8_begin_21 0 rfl ?_
      refine gz_get K (v := .ref (ad 7)) (by decide) (ce_6 _ _ _ _ _ _) rfl inz_X8 0 (by decide) zq1_94 rfl dX8_begin_22 ?_
      refine gz_aload_n K dX8_begin_25 0 rfl ?_
      refine gz_get K (v := .int (gz_i σ 6 2)) (by decide) (ce_6 _ _ _ _ _ _) rfl inz_X8 2 (by decide) zq1_96 rfl dX8_begin_26 ?_
      refine gz_iload_n K dX8_begin_29 1 rfl ?_
      obtain ⟨h, hp⟩ := hp
      refine gz_iast K (x := x1) (by decide) (ce_7 ad ty) h dX8_begin_30 ?_
      refine gz_aload_n K dX8_begin_31 0 rfl ?_
      refine gz_dup K dX8_begin_32 rfl ?_
      refine gz_get K (v := .int (gz_i (sz_i σ 7 ((gz_i σ 6 2)).toNatClampNeg x1) 6 2)) (by decide) (ce_6 _ _ _ _ _ _) rfl inz_X8 2 (by decide) zq1_96 rfl dX8_begin_33 ?_
      refine gz_iconst K (v := (1 : Int32)) dX8_begin_36 (by decide) ?_
      refine gz_iadd K dX8_begin_37 ?_
      refine gz_put K (x := ((gz_i (sz_i σ 7 ((gz_i σ 6 2)).toNatClampNeg x1) 6 2) + (1 : Int32))) (by decide) (ce_6 _ _ _ _ _ _) rfl inz_X8 tyX8 tyX8_ok nmX8 2 (by decide) zq1_96 rfl (tyX8_ok _ (by decide)) rfl rfl (Nat.le_of_ble_eq_true rfl) peX8_2 dX8_begin_38 ?_
      refine gz_iconst K (v := (1 : Int32)) dX8_begin_41 (by decide) ?_
      exact gz_zret K hr (by decide) hp dX8_begin_42 (Nat.le_of_ble_eq_true rfl) (Nat.le_of_ble_eq_true rfl)
    · have hp := hp.2 h
      refine gz_iconst K (v := (0 : Int32)) dX8_begin_19 (by decide) ?_
      exact gz_zret K hr (by decide) hp dX8_begin_20 (Nat.le_of_ble_eq_true rfl) (Nat.le_of_ble_eq_true rfl)
set_option maxRecDepth 100000 in
set_option maxHeartbeats 4000000 in
theorem c_X8_divide {l : Launch} {D : va_G} {ad : Nat → Nat} {ty : Nat → ClassId} (hl : l.stackTraces = false) (hj : ∀ i j, i < 68 → j < 68 → ad i = ad j → i = j) {σ : Dz} {x1 : Int32} {post : Int32 → Dz → Prop} (hp : P_X8_divide σ x1 post) : Mz l D ad ty yX8_divide cX8_divide 2 (some .boolean) r_X8_divide nI0 σ [.ref (ad 6), .int x1] post (fun _ _ => False) := by
  refine mz_of (by decide) hl hj (Nat.le_of_ble_eq_true rfl) ?_
  intro p e s m args below meth c K hex hr
  unfold P_X8_divide at hp
  show Gz p l e r_X8_divide s m args below meth c D ad ty 2 0 0 (Ez below D ad ty nI0 post (fun _ _ => False) args s 0 0) σ 0 [(0, .ref (ad 6)), (1, .int x1)] []
  refine gz_aload_n K dX8_divide_0 0 rfl ?_
  refine gz_get K (v := .int (gz_i σ 6 2)) (by decide) (ce_6 _ _ _ _ _ _) rfl inz_X8 2 (by decide) zq1_96 rfl dX8_divide_1 ?_
  refine gz_if_le K 19 dX8_divide_4 (by decide) (fun h => ?_) (fun h => ?_)
  · have hp := hp.1 h
    refine gz_iconst K (v := (0 : Int32)) dX8_divide_19 (by decide) ?_
    exact gz_zret K hr (by decide) hp dX8_divide_20 (Nat.le_of_ble_eq_true rfl) (Nat.le_of_ble_eq_true rfl)
  · have hp := hp.2 h
    refine gz_aload_n K dX8_divide_7 0 rfl ?_
    refine gz_get K (v := .int (gz_i σ 6 2)) (by decide) (ce_6 _ _ _ _ _ _) rfl inz_X8 2 (by decide) zq1_96 rfl dX8_divide_8 ?_
    refine gz_aload_n K dX8_divide_11 0 rfl ?_
    refine gz_get K (v := .ref (ad 8)) (by decide) (ce_6 _ _ _ _ _ _) rfl inz_X8 1 (by decide) zq1_95 rfl dX8_divide_12 ?_
    refine gz_alen K (v := (6 : Int32)) 3 rfl (by decide) (ce_8 _ _ _ _ _ _) (by decide) dX8_divide_15 ?_
    refine gz_icmp_le K 21 dX8_divide_16 (by decide) (fun h => ?_) (fun h => ?_)
    · have hp := hp.1 h
      refine gz_aload_n K dX8_divide_21 0 rfl ?_
      refine gz_get K (v := .ref (ad 8)) (by decide) (ce_6 _ _ _ _ _ _) rfl inz_X8 1 (by decide) zq1_95 rfl dX8_divide_22 ?_
      refine gz_aload_n K dX8_divide_25 0 rfl ?_
      refine gz_get K (v := .int (gz_i σ 6 2)) (by decide) (ce_6 _ _ _ _ _ _) rfl inz_X8 2 (by decide) zq1_96 rfl dX8_divide_26 ?_
      refine gz_iconst K (v := (1 : Int32)) dX8_divide_29 (by decide) ?_
      refine gz_isub K dX8_divide_30 ?_
      refine gz_iload_n K dX8_divide_31 1 rfl ?_
      obtain ⟨h, hp⟩ := hp
      refine gz_iast K (x := x1) (by decide) (ce_8 ad ty) h dX8_divide_32 ?_
      refine gz_iconst K (v := (1 : Int32)) dX8_divide_33 (by decide) ?_
      exact gz_zret K hr (by decide) hp dX8_divide_34 (Nat.le_of_ble_eq_true rfl) (Nat.le_of_ble_eq_true rfl)
    · have hp := hp.2 h
      refine gz_iconst K (v := (0 : Int32)) dX8_divide_19 (by decide) ?_
      exact gz_zret K hr (by decide) hp dX8_divide_20 (Nat.le_of_ble_eq_true rfl) (Nat.le_of_ble_eq_true rfl)
set_option maxRecDepth 100000 in
set_option maxHeartbeats 4000000 in
theorem c_X8_end {l : Launch} {D : va_G} {ad : Nat → Nat} {ty : Nat → ClassId} (hl : l.stackTraces = false) (hj : ∀ i j, i < 68 → j < 68 → ad i = ad j → i = j) {σ : Dz} {w2 : Nat} (h2 : isW w2) {x1 : Int32} {post : Int32 → Dz → Prop} (hp : P_X8_end σ w2 x1 post) : Mz l D ad ty yX8_end cX8_end 3 (some .boolean) r_X8_end nI0 σ [.ref (ad 6), .int x1, .ref (ad w2)] post (fun _ _ => False) := by
  refine mz_of (by decide) hl hj (Nat.le_of_ble_eq_true rfl) ?_
  intro p e s m args below meth c K hex hr
  unfold P_X8_end at hp
  show Gz p l e r_X8_end s m args below meth c D ad ty 3 0 0 (Ez below D ad ty nI0 post (fun _ _ => False) args s 0 0) σ 0 [(0, .ref (ad 6)), (1, .int x1), (2, .ref (ad w2))] []
  refine gz_aload_n K dX8_end_0 0 rfl ?_
  refine gz_get K (v := .int (gz_i σ 6 2)) (by decide) (ce_6 _ _ _ _ _ _) rfl inz_X8 2 (by decide) zq1_96 rfl dX8_end_1 ?_
  refine gz_if_le K 19 dX8_end_4 (by decide) (fun h => ?_) (fun h => ?_)
  · have hp := hp.1 h
    refine gz_iconst K (v := (0 : Int32)) dX8_end_19 (by decide) ?_
    exact gz_zret K hr (by decide) hp dX8_end_20 (Nat.le_of_ble_eq_true rfl) (Nat.le_of_ble_eq_true rfl)
  · have hp := hp.2 h
    refine gz_aload_n K dX8_end_7 0 rfl ?_
    refine gz_get K (v := .int (gz_i σ 6 2)) (by decide) (ce_6 _ _ _ _ _ _) rfl inz_X8 2 (by decide) zq1_96 rfl dX8_end_8 ?_
    refine gz_aload_n K dX8_end_11 0 rfl ?_
    refine gz_get K (v := .ref (ad 7)) (by decide) (ce_6 _ _ _ _ _ _) rfl inz_X8 0 (by decide) zq1_94 rfl dX8_end_12 ?_
    refine gz_alen K (v := (6 : Int32)) 3 rfl (by decide) (ce_7 _ _ _ _ _ _) (by decide) dX8_end_15 ?_
    refine gz_icmp_le K 21 dX8_end_16 (by decide) (fun h => ?_) (fun h => ?_)
    · have hp := hp.1 h
      refine gz_aload_n K dX8_end_21 0 rfl ?_
      refine gz_dup K dX8_end_22 rfl ?_
      refine gz_get K (v := .int (gz_i σ 6 2)) (by decide) (ce_6 _ _ _ _ _ _) rfl inz_X8 2 (by decide) zq1_96 rfl dX8_end_23 ?_
      refine gz_iconst K (v := (1 : Int32)) dX8_end_26 (by decide) ?_
      refine gz_isub K dX8_end_27 ?_
      refine gz_put K (x := ((gz_i σ 6 2) - (1 : Int32))) (by decide) (ce_6 _ _ _ _ _ _) rfl inz_X8 tyX8 tyX8_ok nmX8 2 (by decide) zq1_96 rfl (tyX8_ok _ (by decide)) rfl rfl (Nat.le_of_ble_eq_true rfl) peX8_2 dX8_end_28 ?_
      refine gz_aload_n K dX8_end_31 0 rfl ?_
      refine gz_aload_n K dX8_end_32 0 rfl ?_
      refine gz_get K (v := .ref (ad 7)) (by decide) (ce_6 _ _ _ _ _ _) rfl inz_X8 0 (by decide) zq1_94 rfl dX8_end_33 ?_
      refine gz_aload_n K dX8_end_36 0 rfl ?_
      refine gz_get K (v := .int (gz_i (sz_i σ 6 2 ((gz_i σ 6 2) - (1 : Int32))) 6 2)) (by decide) (ce_6 _ _ _ _ _ _) rfl inz_X8 2 (by decide) zq1_96 rfl dX8_end_37 ?_
      obtain ⟨h, hp⟩ := hp
      refine gz_iald K (by decide) (ce_7 _ _ _ _ _ _) h dX8_end_40 ?_
      refine gz_put K (x := (gz_i (sz_i σ 6 2 ((gz_i σ 6 2) - (1 : Int32))) 7 ((gz_i (sz_i σ 6 2 ((gz_i σ 6 2) - (1 : Int32))) 6 2)).toNatClampNeg)) (by decide) (ce_6 _ _ _ _ _ _) rfl inz_X8 tyX8 tyX8_ok nmX8 3 (by decide) zq1_97 rfl (tyX8_ok _ (by decide)) rfl rfl (Nat.le_of_ble_eq_true rfl) peX8_3 dX8_end_41 ?_
      refine gz_iload_n K dX8_end_44 1 rfl ?_
      refine gz_if_eq K 73 dX8_end_45 (by decide) (fun h => ?_) (fun h => ?_)
      · have hp := hp.1 h
        refine gz_iconst K (v := (1 : Int32)) dX8_end_73 (by decide) ?_
        refine gz_goto K 78 dX8_end_74 (by decide) ?_
        exact gz_zret K hr (by decide) hp dX8_end_78 (Nat.le_of_ble_eq_true rfl) (Nat.le_of_ble_eq_true rfl)
      · have hp := hp.2 h
        refine gz_aload_n K dX8_end_48 2 rfl ?_
        refine gz_aload_n K dX8_end_49 0 rfl ?_
        refine gz_get K (v := .ref (ad 7)) (by decide) (ce_6 _ _ _ _ _ _) rfl inz_X8 0 (by decide) zq1_94 rfl dX8_end_50 ?_
        refine gz_aload_n K dX8_end_53 0 rfl ?_
        refine gz_get K (v := .int (gz_i (sz_i (sz_i σ 6 2 ((gz_i σ 6 2) - (1 : Int32))) 6 3 (gz_i (sz_i σ 6 2 ((gz_i σ 6 2) - (1 : Int32))) 7 ((gz_i (sz_i σ 6 2 ((gz_i σ 6 2) - (1 : Int32))) 6 2)).toNatClampNeg)) 6 2)) (by decide) (ce_6 _ _ _ _ _ _) rfl inz_X8 2 (by decide) zq1_96 rfl dX8_end_54 ?_
        obtain ⟨h, hp⟩ := hp
        refine gz_iald K (by decide) (ce_7 _ _ _ _ _ _) h dX8_end_57 ?_
        refine gz_aload_n K dX8_end_58 0 rfl ?_
        refine gz_get K (v := .ref (ad 8)) (by decide) (ce_6 _ _ _ _ _ _) rfl inz_X8 1 (by decide) zq1_95 rfl dX8_end_59 ?_
        refine gz_aload_n K dX8_end_62 0 rfl ?_
        refine gz_get K (v := .int (gz_i (sz_i (sz_i σ 6 2 ((gz_i σ 6 2) - (1 : Int32))) 6 3 (gz_i (sz_i σ 6 2 ((gz_i σ 6 2) - (1 : Int32))) 7 ((gz_i (sz_i σ 6 2 ((gz_i σ 6 2) - (1 : Int32))) 6 2)).toNatClampNeg)) 6 2)) (by decide) (ce_6 _ _ _ _ _ _) rfl inz_X8 2 (by decide) zq1_96 rfl dX8_end_63 ?_
        obtain ⟨h, hp⟩ := hp
        refine gz_iald K (by decide) (ce_8 _ _ _ _ _ _) h dX8_end_66 ?_
        refine gz_callV K hex (c_X6_closeCommutator K.2.2.2.2.2 K.2.2.1 h2 hp) cf_X6_closeCommutator zq3_166 (ceW h2).1 ((ceW h2).2 _ _ _ _ _ _) rfl dX8_end_67 rfl rfl (Nat.le_of_ble_eq_true rfl) ⟨Nat.le_of_ble_eq_true rfl, Nat.le_of_ble_eq_true rfl⟩ ⟨Nat.le_of_ble_eq_true rfl, Nat.le_of_ble_eq_true rfl⟩ (Nat.le_of_ble_eq_true rfl) (Nat.le_of_ble_eq_true rfl) (fun _ _ h => h.elim) (fun r67 τ67 hp => ?_)
        refine gz_norm (st' := [.int r67]) (cells' := 0) (slots' := 0) rfl rfl rfl ?_
        refine gz_if_eq K 77 dX8_end_70 (by decide) (fun h => ?_) (fun h => ?_)
        · have hp := hp.1 h
          refine gz_iconst K (v := (0 : Int32)) dX8_end_77 (by decide) ?_
          exact gz_zret K hr (by decide) hp dX8_end_78 (Nat.le_of_ble_eq_true rfl) (Nat.le_of_ble_eq_true rfl)
        · have hp := hp.2 h
          refine gz_iconst K (v := (1 : Int32)) dX8_end_73 (by decide) ?_
          refine gz_goto K 78 dX8_end_74 (by decide) ?_
          exact gz_zret K hr (by decide) hp dX8_end_78 (Nat.le_of_ble_eq_true rfl) (Nat.le_of_ble_eq_true rfl)
    · have hp := hp.2 h
      refine gz_iconst K (v := (0 : Int32)) dX8_end_19 (by decide) ?_
      exact gz_zret K hr (by decide) hp dX8_end_20 (Nat.le_of_ble_eq_true rfl) (Nat.le_of_ble_eq_true rfl)
set_option maxRecDepth 100000 in
set_option maxHeartbeats 4000000 in
theorem c_X8_writeNext {l : Launch} {D : va_G} {ad : Nat → Nat} {ty : Nat → ClassId} (hl : l.stackTraces = false) (hj : ∀ i j, i < 68 → j < 68 → ad i = ad j → i = j) {σ : Dz} {w2 : Nat} (h2 : isW w2) {x1 : Int32} {post : Int32 → Dz → Prop} (hp : P_X8_writeNext σ w2 x1 post) : Mz l D ad ty yX8_writeNext cX8_writeNext 3 (some .boolean) r_X8_writeNext nI0 σ [.ref (ad 6), .int x1, .ref (ad w2)] post (fun _ _ => False) := by
  refine mz_of (by decide) hl hj (Nat.le_of_ble_eq_true rfl) ?_
  intro p e s m args below meth c K hex hr
  unfold P_X8_writeNext at hp
  have bb_74 : ∀ (σ : Dz) (y1 : Int32) , B_X8_writeNext_74 w2 post  σ y1 → Gz p l e r_X8_writeNext s m args below meth c D ad ty 3 0 0 (Ez below D ad ty nI0 post (fun _ _ => False) args s 0 0) σ 74 [(0, .ref (ad 6)), (1, .int y1), (2, .ref (ad w2))] [] := by
    intro σ y1 hp
    unfold B_X8_writeNext_74 at hp
    refine gz_aload_n K dX8_writeNext_74 0 rfl ?_
    refine gz_iload_n K dX8_writeNext_75 1 rfl ?_
    refine gz_bipush K (v := (62 : Int32)) dX8_writeNext_76 (by decide) ?_
    refine gz_icmp_ne K 85 dX8_writeNext_78 (by decide) (fun h => ?_) (fun h => ?_)
    · have hp := hp.1 h
      refine gz_iconst K (v := (0 : Int32)) dX8_writeNext_85 (by decide) ?_
      refine gz_aload_n K dX8_writeNext_86 2 rfl ?_
      refine gz_callV K hex (c_X8_end K.2.2.2.2.2 K.2.2.1 h2 hp) cf_X8_end zq3_162 (by decide) (ce_6 _ _ _ _ _ _) rfl dX8_writeNext_87 rfl rfl (Nat.le_of_ble_eq_true rfl) ⟨Nat.le_of_ble_eq_true rfl, Nat.le_of_ble_eq_true rfl⟩ ⟨Nat.le_of_ble_eq_true rfl, Nat.le_of_ble_eq_true rfl⟩ (Nat.le_of_ble_eq_true rfl) (Nat.le_of_ble_eq_true rfl) (fun _ _ h => h.elim) (fun r87 τ87 hp => ?_)
      refine gz_norm (st' := [.int r87]) (cells' := 0) (slots' := 0) rfl rfl rfl ?_
      exact gz_zret K hr (nB hp.1) hp.2 dX8_writeNext_90 (Nat.le_of_ble_eq_true rfl) (Nat.le_of_ble_eq_true rfl)
    · have hp := hp.2 h
      refine gz_iconst K (v := (1 : Int32)) dX8_writeNext_81 (by decide) ?_
      refine gz_goto K 86 dX8_writeNext_82 (by decide) ?_
      refine gz_aload_n K dX8_writeNext_86 2 rfl ?_
      refine gz_callV K hex (c_X8_end K.2.2.2.2.2 K.2.2.1 h2 hp) cf_X8_end zq3_162 (by decide) (ce_6 _ _ _ _ _ _) rfl dX8_writeNext_87 rfl rfl (Nat.le_of_ble_eq_true rfl) ⟨Nat.le_of_ble_eq_true rfl, Nat.le_of_ble_eq_true rfl⟩ ⟨Nat.le_of_ble_eq_true rfl, Nat.le_of_ble_eq_true rfl⟩ (Nat.le_of_ble_eq_true rfl) (Nat.le_of_ble_eq_true rfl) (fun _ _ h => h.elim) (fun r87 τ87 hp => ?_)
      refine gz_norm (st' := [.int r87]) (cells' := 0) (slots' := 0) rfl rfl rfl ?_
      exact gz_zret K hr (nB hp.1) hp.2 dX8_writeNext_90 (Nat.le_of_ble_eq_true rfl) (Nat.le_of_ble_eq_true rfl)
  show Gz p l e r_X8_writeNext s m args below meth c D ad ty 3 0 0 (Ez below D ad ty nI0 post (fun _ _ => False) args s 0 0) σ 0 [(0, .ref (ad 6)), (1, .int x1), (2, .ref (ad w2))] []
  refine gz_iload_n K dX8_writeNext_0 1 rfl ?_
  refine gz_callS K hex (c_X5_isName K.2.2.2.2.2 K.2.2.1 hp) cf_X5_isName zq3_151 dX8_writeNext_1 rfl rfl (Nat.le_of_ble_eq_true rfl) ⟨Nat.le_of_ble_eq_true rfl, Nat.le_of_ble_eq_true rfl⟩ ⟨Nat.le_of_ble_eq_true rfl, Nat.le_of_ble_eq_true rfl⟩ (Nat.le_of_ble_eq_true rfl) (Nat.le_of_ble_eq_true rfl) (fun _ _ h => h.elim) (fun r1 τ hp => ?_)
  obtain ⟨rfl, hp⟩ := hp
  refine gz_norm (st' := [.int r1]) (cells' := 0) (slots' := 0) rfl rfl rfl ?_
  refine gz_if_eq K 26 dX8_writeNext_4 (by decide) (fun h => ?_) (fun h => ?_)
  · have hp := hp.1 h
    refine gz_iload_n K dX8_writeNext_26 1 rfl ?_
    refine gz_bipush K (v := (40 : Int32)) dX8_writeNext_27 (by decide) ?_
    refine gz_icmp_eq K 38 dX8_writeNext_29 (by decide) (fun h => ?_) (fun h => ?_)
    · have hp := hp.1 h
      refine gz_aload_n K dX8_writeNext_38 0 rfl ?_
      refine gz_aload_n K dX8_writeNext_39 2 rfl ?_
      refine gz_callV K hex (c_X6_length K.2.2.2.2.2 K.2.2.1 h2 hp) cf_X6_length zq3_152 (ceW h2).1 ((ceW h2).2 _ _ _ _ _ _) rfl dX8_writeNext_40 rfl rfl (Nat.le_of_ble_eq_true rfl) ⟨Nat.le_of_ble_eq_true rfl, Nat.le_of_ble_eq_true rfl⟩ ⟨Nat.le_of_ble_eq_true rfl, Nat.le_of_ble_eq_true rfl⟩ (Nat.le_of_ble_eq_true rfl) (Nat.le_of_ble_eq_true rfl) (fun _ _ h => h.elim) (fun r40 τ hp => ?_)
      obtain ⟨rfl, hp⟩ := hp
      refine gz_norm (st' := [.int r40, .ref (ad 6)]) (cells' := 0) (slots' := 0) rfl rfl rfl ?_
      refine gz_callV K hex (c_X8_begin K.2.2.2.2.2 K.2.2.1 hp) cf_X8_begin zq3_154 (by decide) (ce_6 _ _ _ _ _ _) rfl dX8_writeNext_43 rfl rfl (Nat.le_of_ble_eq_true rfl) ⟨Nat.le_of_ble_eq_true rfl, Nat.le_of_ble_eq_true rfl⟩ ⟨Nat.le_of_ble_eq_true rfl, Nat.le_of_ble_eq_true rfl⟩ (Nat.le_of_ble_eq_true rfl) (Nat.le_of_ble_eq_true rfl) (fun _ _ h => h.elim) (fun r43 τ43 hp => ?_)
      refine gz_norm (st' := [.int r43]) (cells' := 0) (slots' := 0) rfl rfl rfl ?_
      exact gz_zret K hr (nB hp.1) hp.2 dX8_writeNext_46 (Nat.le_of_ble_eq_true rfl) (Nat.le_of_ble_eq_true rfl)
    · have hp := hp.2 h
      refine gz_iload_n K dX8_writeNext_32 1 rfl ?_
      refine gz_bipush K (v := (60 : Int32)) dX8_writeNext_33 (by decide) ?_
      refine gz_icmp_ne K 47 dX8_writeNext_35 (by decide) (fun h => ?_) (fun h => ?_)
      · have hp := hp.1 h
        refine gz_iload_n K dX8_writeNext_47 1 rfl ?_
        refine gz_bipush K (v := (44 : Int32)) dX8_writeNext_48 (by decide) ?_
        refine gz_icmp_ne K 62 dX8_writeNext_50 (by decide) (fun h => ?_) (fun h => ?_)
        · have hp := hp.1 h
          refine gz_iload_n K dX8_writeNext_62 1 rfl ?_
          refine gz_bipush K (v := (41 : Int32)) dX8_writeNext_63 (by decide) ?_
          refine gz_icmp_eq K 74 dX8_writeNext_65 (by decide) (fun h => ?_) (fun h => ?_)
          · have hp := hp.1 h
            exact bb_74 σ x1  hp
          · have hp := hp.2 h
            refine gz_iload_n K dX8_writeNext_68 1 rfl ?_
            refine gz_bipush K (v := (62 : Int32)) dX8_writeNext_69 (by decide) ?_
            refine gz_icmp_ne K 91 dX8_writeNext_71 (by decide) (fun h => ?_) (fun h => ?_)
            · have hp := hp.1 h
              refine gz_iload_n K dX8_writeNext_91 1 rfl ?_
              refine gz_bipush K (v := (39 : Int32)) dX8_writeNext_92 (by decide) ?_
              refine gz_icmp_ne K 107 dX8_writeNext_94 (by decide) (fun h => ?_) (fun h => ?_)
              · have hp := hp.1 h
                refine gz_aload_n K dX8_writeNext_107 2 rfl ?_
                refine gz_aload_n K dX8_writeNext_108 0 rfl ?_
                refine gz_get K (v := .int (gz_i σ 6 3)) (by decide) (ce_6 _ _ _ _ _ _) rfl inz_X8 3 (by decide) zq1_97 rfl dX8_writeNext_109 ?_
                refine gz_iload_n K dX8_writeNext_112 1 rfl ?_
                refine gz_bipush K (v := (48 : Int32)) dX8_writeNext_113 (by decide) ?_
                refine gz_isub K dX8_writeNext_115 ?_
                refine gz_callV K hex (c_X6_repeatFrom K.2.2.2.2.2 K.2.2.1 h2 hp) cf_X6_repeatFrom zq3_178 (ceW h2).1 ((ceW h2).2 _ _ _ _ _ _) rfl dX8_writeNext_116 rfl rfl (Nat.le_of_ble_eq_true rfl) ⟨Nat.le_of_ble_eq_true rfl, Nat.le_of_ble_eq_true rfl⟩ ⟨Nat.le_of_ble_eq_true rfl, Nat.le_of_ble_eq_true rfl⟩ (Nat.le_of_ble_eq_true rfl) (Nat.le_of_ble_eq_true rfl) (fun _ _ h => h.elim) (fun r116 τ116 hp => ?_)
                refine gz_norm (st' := [.int r116]) (cells' := 0) (slots' := 0) rfl rfl rfl ?_
                exact gz_zret K hr (nB hp.1) hp.2 dX8_writeNext_119 (Nat.le_of_ble_eq_true rfl) (Nat.le_of_ble_eq_true rfl)
              · have hp := hp.2 h
                refine gz_aload_n K dX8_writeNext_97 2 rfl ?_
                refine gz_aload_n K dX8_writeNext_98 0 rfl ?_
                refine gz_get K (v := .int (gz_i σ 6 3)) (by decide) (ce_6 _ _ _ _ _ _) rfl inz_X8 3 (by decide) zq1_97 rfl dX8_writeNext_99 ?_
                refine gz_callV K hex (c_X6_invertFrom K.2.2.2.2.2 K.2.2.1 h2 hp) cf_X6_invertFrom zq3_174 (ceW h2).1 ((ceW h2).2 _ _ _ _ _ _) rfl dX8_writeNext_102 rfl rfl (Nat.le_of_ble_eq_true rfl) ⟨Nat.le_of_ble_eq_true rfl, Nat.le_of_ble_eq_true rfl⟩ ⟨Nat.le_of_ble_eq_true rfl, Nat.le_of_ble_eq_true rfl⟩ (Nat.le_of_ble_eq_true rfl) (Nat.le_of_ble_eq_true rfl) (fun _ _ h => h.elim) (fun _ τ102 hp => ?_)
                refine gz_norm (st' := []) (cells' := 0) (slots' := 0) rfl rfl rfl ?_
                refine gz_iconst K (v := (1 : Int32)) dX8_writeNext_105 (by decide) ?_
                exact gz_zret K hr (by decide) hp dX8_writeNext_106 (Nat.le_of_ble_eq_true rfl) (Nat.le_of_ble_eq_true rfl)
            · have hp := hp.2 h
              exact bb_74 σ x1  hp
        · have hp := hp.2 h
          refine gz_aload_n K dX8_writeNext_53 0 rfl ?_
          refine gz_aload_n K dX8_writeNext_54 2 rfl ?_
          refine gz_callV K hex (c_X6_length K.2.2.2.2.2 K.2.2.1 h2 hp) cf_X6_length zq3_152 (ceW h2).1 ((ceW h2).2 _ _ _ _ _ _) rfl dX8_writeNext_55 rfl rfl (Nat.le_of_ble_eq_true rfl) ⟨Nat.le_of_ble_eq_true rfl, Nat.le_of_ble_eq_true rfl⟩ ⟨Nat.le_of_ble_eq_true rfl, Nat.le_of_ble_eq_true rfl⟩ (Nat.le_of_ble_eq_true rfl) (Nat.le_of_ble_eq_true rfl) (fun _ _ h => h.elim) (fun r55 τ hp => ?_)
          obtain ⟨rfl, hp⟩ := hp
          refine gz_norm (st' := [.int r55, .ref (ad 6)]) (cells' := 0) (slots' := 0) rfl rfl rfl ?_
          refine gz_callV K hex (c_X8_divide K.2.2.2.2.2 K.2.2.1 hp) cf_X8_divide zq3_158 (by decide) (ce_6 _ _ _ _ _ _) rfl dX8_writeNext_58 rfl rfl (Nat.le_of_ble_eq_true rfl) ⟨Nat.le_of_ble_eq_true rfl, Nat.le_of_ble_eq_true rfl⟩ ⟨Nat.le_of_ble_eq_true rfl, Nat.le_of_ble_eq_true rfl⟩ (Nat.le_of_ble_eq_true rfl) (Nat.le_of_ble_eq_true rfl) (fun _ _ h => h.elim) (fun r58 τ58 hp => ?_)
          refine gz_norm (st' := [.int r58]) (cells' := 0) (slots' := 0) rfl rfl rfl ?_
          exact gz_zret K hr (nB hp.1) hp.2 dX8_writeNext_61 (Nat.le_of_ble_eq_true rfl) (Nat.le_of_ble_eq_true rfl)
      · have hp := hp.2 h
        refine gz_aload_n K dX8_writeNext_38 0 rfl ?_
        refine gz_aload_n K dX8_writeNext_39 2 rfl ?_
        refine gz_callV K hex (c_X6_length K.2.2.2.2.2 K.2.2.1 h2 hp) cf_X6_length zq3_152 (ceW h2).1 ((ceW h2).2 _ _ _ _ _ _) rfl dX8_writeNext_40 rfl rfl (Nat.le_of_ble_eq_true rfl) ⟨Nat.le_of_ble_eq_true rfl, Nat.le_of_ble_eq_true rfl⟩ ⟨Nat.le_of_ble_eq_true rfl, Nat.le_of_ble_eq_true rfl⟩ (Nat.le_of_ble_eq_true rfl) (Nat.le_of_ble_eq_true rfl) (fun _ _ h => h.elim) (fun r40 τ hp => ?_)
        obtain ⟨rfl, hp⟩ := hp
        refine gz_norm (st' := [.int r40, .ref (ad 6)]) (cells' := 0) (slots' := 0) rfl rfl rfl ?_
        refine gz_callV K hex (c_X8_begin K.2.2.2.2.2 K.2.2.1 hp) cf_X8_begin zq3_154 (by decide) (ce_6 _ _ _ _ _ _) rfl dX8_writeNext_43 rfl rfl (Nat.le_of_ble_eq_true rfl) ⟨Nat.le_of_ble_eq_true rfl, Nat.le_of_ble_eq_true rfl⟩ ⟨Nat.le_of_ble_eq_true rfl, Nat.le_of_ble_eq_true rfl⟩ (Nat.le_of_ble_eq_true rfl) (Nat.le_of_ble_eq_true rfl) (fun _ _ h => h.elim) (fun r43 τ43 hp => ?_)
        refine gz_norm (st' := [.int r43]) (cells' := 0) (slots' := 0) rfl rfl rfl ?_
        exact gz_zret K hr (nB hp.1) hp.2 dX8_writeNext_46 (Nat.le_of_ble_eq_true rfl) (Nat.le_of_ble_eq_true rfl)
  · have hp := hp.2 h
    refine gz_aload_n K dX8_writeNext_7 0 rfl ?_
    refine gz_aload_n K dX8_writeNext_8 2 rfl ?_
    refine gz_callV K hex (c_X6_length K.2.2.2.2.2 K.2.2.1 h2 hp) cf_X6_length zq3_152 (ceW h2).1 ((ceW h2).2 _ _ _ _ _ _) rfl dX8_writeNext_9 rfl rfl (Nat.le_of_ble_eq_true rfl) ⟨Nat.le_of_ble_eq_true rfl, Nat.le_of_ble_eq_true rfl⟩ ⟨Nat.le_of_ble_eq_true rfl, Nat.le_of_ble_eq_true rfl⟩ (Nat.le_of_ble_eq_true rfl) (Nat.le_of_ble_eq_true rfl) (fun _ _ h => h.elim) (fun r9 τ hp => ?_)
    obtain ⟨rfl, hp⟩ := hp
    refine gz_norm (st' := [.int r9, .ref (ad 6)]) (cells' := 0) (slots' := 0) rfl rfl rfl ?_
    refine gz_put K (x := r9) (by decide) (ce_6 _ _ _ _ _ _) rfl inz_X8 tyX8 tyX8_ok nmX8 3 (by decide) zq1_97 rfl (tyX8_ok _ (by decide)) rfl rfl (Nat.le_of_ble_eq_true rfl) peX8_3 dX8_writeNext_12 ?_
    refine gz_aload_n K dX8_writeNext_15 2 rfl ?_
    refine gz_iconst K (v := (2 : Int32)) dX8_writeNext_16 (by decide) ?_
    refine gz_iload_n K dX8_writeNext_17 1 rfl ?_
    refine gz_bipush K (v := (97 : Int32)) dX8_writeNext_18 (by decide) ?_
    refine gz_isub K dX8_writeNext_20 ?_
    refine gz_imul K dX8_writeNext_21 ?_
    refine gz_callV K hex (c_X6_add K.2.2.2.2.2 K.2.2.1 h2 hp) cf_X6_add zq3_153 (ceW h2).1 ((ceW h2).2 _ _ _ _ _ _) rfl dX8_writeNext_22 rfl rfl (Nat.le_of_ble_eq_true rfl) ⟨Nat.le_of_ble_eq_true rfl, Nat.le_of_ble_eq_true rfl⟩ ⟨Nat.le_of_ble_eq_true rfl, Nat.le_of_ble_eq_true rfl⟩ (Nat.le_of_ble_eq_true rfl) (Nat.le_of_ble_eq_true rfl) (fun _ _ h => h.elim) (fun r22 τ22 hp => ?_)
    refine gz_norm (st' := [.int r22]) (cells' := 0) (slots' := 0) rfl rfl rfl ?_
    exact gz_zret K hr (nB hp.1) hp.2 dX8_writeNext_25 (Nat.le_of_ble_eq_true rfl) (Nat.le_of_ble_eq_true rfl)
set_option maxRecDepth 100000 in
set_option maxHeartbeats 4000000 in
theorem c_X8_write {l : Launch} {D : va_G} {ad : Nat → Nat} {ty : Nat → ClassId} (hl : l.stackTraces = false) (hj : ∀ i j, i < 68 → j < 68 → ad i = ad j → i = j) {σ : Dz} {w2 : Nat} (h2 : isW w2) {post : Int32 → Dz → Prop} (hp : P_X8_write σ w2 post) : Mz l D ad ty yX8_write cX8_write 5 (some .boolean) r_X8_write nI0 σ [.ref (ad 6), .ref (ad 1), .ref (ad w2)] post (fun _ _ => False) := by
  refine mz_of (by decide) hl hj (Nat.le_of_ble_eq_true rfl) ?_
  intro p e s m args below meth c K hex hr
  unfold P_X8_write at hp
  show Gz p l e r_X8_write s m args below meth c D ad ty 5 0 0 (Ez below D ad ty nI0 post (fun _ _ => False) args s 0 0) σ 0 [(0, .ref (ad 6)), (1, .ref (ad 1)), (2, .ref (ad w2))] []
  refine gz_aload_n K dX8_write_0 2 rfl ?_
  refine gz_callV K hex (c_X6_clear K.2.2.2.2.2 K.2.2.1 h2 hp) cf_X6_clear zq3_144 (ceW h2).1 ((ceW h2).2 _ _ _ _ _ _) rfl dX8_write_1 rfl rfl (Nat.le_of_ble_eq_true rfl) ⟨Nat.le_of_ble_eq_true rfl, Nat.le_of_ble_eq_true rfl⟩ ⟨Nat.le_of_ble_eq_true rfl, Nat.le_of_ble_eq_true rfl⟩ (Nat.le_of_ble_eq_true rfl) (Nat.le_of_ble_eq_true rfl) (fun _ _ h => h.elim) (fun _ τ1 hp => ?_)
  refine gz_norm (st' := []) (cells' := 0) (slots' := 0) rfl rfl rfl ?_
  refine gz_aload_n K dX8_write_4 0 rfl ?_
  refine gz_iconst K (v := (0 : Int32)) dX8_write_5 (by decide) ?_
  refine gz_put K (x := (0 : Int32)) (by decide) (ce_6 _ _ _ _ _ _) rfl inz_X8 tyX8 tyX8_ok nmX8 2 (by decide) zq1_96 rfl (tyX8_ok _ (by decide)) rfl rfl (Nat.le_of_ble_eq_true rfl) peX8_2 dX8_write_6 ?_
  refine gz_aload_n K dX8_write_9 0 rfl ?_
  refine gz_iconst K (v := (0 : Int32)) dX8_write_10 (by decide) ?_
  refine gz_put K (x := (0 : Int32)) (by decide) (ce_6 _ _ _ _ _ _) rfl inz_X8 tyX8 tyX8_ok nmX8 3 (by decide) zq1_97 rfl (tyX8_ok _ (by decide)) rfl rfl (Nat.le_of_ble_eq_true rfl) peX8_3 dX8_write_11 ?_
  refine gz_iconst K (v := (1 : Int32)) dX8_write_14 (by decide) ?_
  refine gz_istore_n K [(3, .int (1 : Int32)), (0, .ref (ad 6)), (1, .ref (ad 1)), (2, .ref (ad w2))] dX8_write_15 (by decide) rfl ?_
  refine gz_iconst K (v := (0 : Int32)) dX8_write_16 (by decide) ?_
  refine gz_istore K [(4, .int (0 : Int32)), (3, .int (1 : Int32)), (0, .ref (ad 6)), (1, .ref (ad 1)), (2, .ref (ad w2))] dX8_write_17 (by decide) rfl ?_
  refine gz_sub [2, 3, 4, 1, 0] rfl ?_
  have ll_19 : ∀ (n_19 : Nat) (σ : Dz) (y3 : Int32) (y4 : Int32) , L_X8_write_19 w2 post  n_19 σ y3 y4 → Gz p l e r_X8_write s m args below meth c D ad ty 5 0 0 (Ez below D ad ty nI0 post (fun _ _ => False) args s 0 0) σ 19 [(0, .ref (ad 6)), (1, .ref (ad 1)), (2, .ref (ad w2)), (3, .int y3), (4, .int y4)] [] := by
    intro n_19; induction n_19 with
    | zero => intro σ y3 y4 hp; exact False.elim hp
    | succ n_19 ih_19 =>
      intro σ y3 y4 hp
      have hp : B_X8_write_19 w2 post  (L_X8_write_19 w2 post  n_19) σ y3 y4 := hp
      unfold B_X8_write_19 at hp
      refine gz_iload_n K dX8_write_19 3 rfl ?_
      refine gz_if_eq K 50 dX8_write_20 (by decide) (fun h => ?_) (fun h => ?_)
      · have hp := hp.1 h
        refine gz_iload_n K dX8_write_50 3 rfl ?_
        exact gz_zret K hr (nB hp.1) hp.2 dX8_write_51 (Nat.le_of_ble_eq_true rfl) (Nat.le_of_ble_eq_true rfl)
      · have hp := hp.2 h
        refine gz_iload K dX8_write_23 4 rfl ?_
        refine gz_aload_n K dX8_write_25 1 rfl ?_
        refine gz_callV K hex (c_X5_length K.2.2.2.2.2 K.2.2.1 hp) cf_X5_length zq3_145 (by decide) (ce_1 _ _ _ _ _ _) rfl dX8_write_26 rfl rfl (Nat.le_of_ble_eq_true rfl) ⟨Nat.le_of_ble_eq_true rfl, Nat.le_of_ble_eq_true rfl⟩ ⟨Nat.le_of_ble_eq_true rfl, Nat.le_of_ble_eq_true rfl⟩ (Nat.le_of_ble_eq_true rfl) (Nat.le_of_ble_eq_true rfl) (fun _ _ h => h.elim) (fun r26 τ hp => ?_)
        obtain ⟨rfl, hp⟩ := hp
        refine gz_norm (st' := [.int r26, .int y4]) (cells' := 0) (slots' := 0) rfl rfl rfl ?_
        refine gz_icmp_ge K 50 dX8_write_29 (by decide) (fun h => ?_) (fun h => ?_)
        · have hp := hp.1 h
          refine gz_iload_n K dX8_write_50 3 rfl ?_
          exact gz_zret K hr (nB hp.1) hp.2 dX8_write_51 (Nat.le_of_ble_eq_true rfl) (Nat.le_of_ble_eq_true rfl)
        · have hp := hp.2 h
          refine gz_aload_n K dX8_write_32 0 rfl ?_
          refine gz_aload_n K dX8_write_33 1 rfl ?_
          refine gz_iload K dX8_write_34 4 rfl ?_
          refine gz_callV K hex (c_X5_at K.2.2.2.2.2 K.2.2.1 hp) cf_X5_at zq3_146 (by decide) (ce_1 _ _ _ _ _ _) rfl dX8_write_36 rfl rfl (Nat.le_of_ble_eq_true rfl) ⟨Nat.le_of_ble_eq_true rfl, Nat.le_of_ble_eq_true rfl⟩ ⟨Nat.le_of_ble_eq_true rfl, Nat.le_of_ble_eq_true rfl⟩ (Nat.le_of_ble_eq_true rfl) (Nat.le_of_ble_eq_true rfl) (fun _ _ h => h.elim) (fun r36 τ hp => ?_)
          obtain ⟨rfl, hp⟩ := hp
          refine gz_norm (st' := [.int r36, .ref (ad 6)]) (cells' := 0) (slots' := 0) rfl rfl rfl ?_
          refine gz_aload_n K dX8_write_39 2 rfl ?_
          refine gz_callV K hex (c_X8_writeNext K.2.2.2.2.2 K.2.2.1 h2 hp) cf_X8_writeNext zq3_147 (by decide) (ce_6 _ _ _ _ _ _) rfl dX8_write_40 rfl rfl (Nat.le_of_ble_eq_true rfl) ⟨Nat.le_of_ble_eq_true rfl, Nat.le_of_ble_eq_true rfl⟩ ⟨Nat.le_of_ble_eq_true rfl, Nat.le_of_ble_eq_true rfl⟩ (Nat.le_of_ble_eq_true rfl) (Nat.le_of_ble_eq_true rfl) (fun _ _ h => h.elim) (fun r40 τ40 hp => ?_)
          refine gz_norm (st' := [.int r40]) (cells' := 0) (slots' := 0) rfl rfl rfl ?_
          refine gz_istore_n K [(3, .int r40), (0, .ref (ad 6)), (1, .ref (ad 1)), (2, .ref (ad w2)), (4, .int y4)] dX8_write_43 (by decide) rfl ?_
          refine gz_iinc K (v := (y4 + 1)) [(4, .int (y4 + 1)), (3, .int r40), (0, .ref (ad 6)), (1, .ref (ad 1)), (2, .ref (ad w2))] dX8_write_44 4 rfl (by first | rfl | decide) (by decide) rfl ?_
          refine gz_goto K 19 dX8_write_47 (by decide) ?_
          refine gz_sub [2, 3, 4, 1, 0] rfl ?_
          exact ih_19 τ40 r40 (y4 + 1)  hp
  obtain ⟨n, hp⟩ := hp
  exact ll_19 n (sz_i (sz_i τ1 6 2 (0 : Int32)) 6 3 (0 : Int32)) (1 : Int32) (0 : Int32)  hp
set_option maxRecDepth 100000 in
set_option maxHeartbeats 4000000 in
theorem c_X9_reset {l : Launch} {D : va_G} {ad : Nat → Nat} {ty : Nat → ClassId} (hl : l.stackTraces = false) (hj : ∀ i j, i < 68 → j < 68 → ad i = ad j → i = j) {σ : Dz} {x1 : Int32} {post : Int32 → Dz → Prop} {px : String → Dz → Prop} (hp : P_X9_reset σ x1 post px) : Mz l D ad ty yX9_reset cX9_reset 3 (some .int) r_X9_reset nI0 σ [.ref (ad 0), .int x1] post px := by
  refine mz_of (by decide) hl hj (Nat.le_of_ble_eq_true rfl) ?_
  intro p e s m args below meth c K hex hr
  unfold P_X9_reset at hp
  show Gz p l e r_X9_reset s m args below meth c D ad ty 3 0 0 (Ez below D ad ty nI0 post px args s 1 6) σ 0 [(0, .ref (ad 0)), (1, .int x1)] []
  refine gz_iload_n K dX9_reset_0 1 rfl ?_
  refine gz_iconst K (v := (2 : Int32)) dX9_reset_1 (by decide) ?_
  refine gz_icmp_lt K 11 dX9_reset_2 (by decide) (fun h => ?_) (fun h => ?_)
  · have hp := hp.1 h
    obtain ⟨sa, hsa⟩ := K.2.2.2.2.1.2.2.1 _ (List.mem_of_getElem? (l := zStr) (i := 0) rfl)
    exact gz_throw K hex false rfl xd_IllegalArgumentException_0 xd_IllegalArgumentException_1 xd_IllegalArgumentException_2 xd_IllegalArgumentException_5 (by decide) zq2_131 zq1_14 hsa xl_94 dX9_reset_11 dX9_reset_14 dX9_reset_15 dX9_reset_17 dX9_reset_20 (Nat.le_of_ble_eq_true rfl) (Nat.le_of_ble_eq_true rfl) (Nat.le_of_ble_eq_true rfl) (Nat.le_of_ble_eq_true rfl) hp (Nat.le_of_ble_eq_true rfl) (Nat.le_of_ble_eq_true rfl)
  · have hp := hp.2 h
    refine gz_iload_n K dX9_reset_5 1 rfl ?_
    refine gz_bipush K (v := (7 : Int32)) dX9_reset_6 (by decide) ?_
    refine gz_icmp_le K 21 dX9_reset_8 (by decide) (fun h => ?_) (fun h => ?_)
    · have hp := hp.1 h
      refine gz_aload_n K dX9_reset_21 0 rfl ?_
      refine gz_get K (v := .int (gz_i σ 0 11)) (by decide) (ce_0 _ _ _ _ _ _) rfl inz_X9 11 (by decide) zq1_213 rfl dX9_reset_22 ?_
      refine gz_istore_n K [(2, .int (gz_i σ 0 11)), (0, .ref (ad 0)), (1, .int x1)] dX9_reset_25 (by decide) rfl ?_
      refine gz_aload_n K dX9_reset_26 1 rfl ?_
      refine gz_iload_n K dX9_reset_27 2 rfl ?_
      refine gz_put K (x := x1) (by decide) (ce_0 _ _ _ _ _ _) rfl inz_X9 tyX9 tyX9_ok nmX9 11 (by decide) zq1_213 rfl (tyX9_ok _ (by decide)) rfl rfl (Nat.le_of_ble_eq_true rfl) peX9_11 dX9_reset_28 ?_
      refine gz_aload_n K dX9_reset_31 1 rfl ?_
      refine gz_get K (v := .ref (ad 17)) (by decide) (ce_0 _ _ _ _ _ _) rfl inz_X9 6 (by decide) zq1_208 rfl dX9_reset_32 ?_
      refine gz_callV K hex (c_X4_clear K.2.2.2.2.2 K.2.2.1 (by unfold isS; decide) hp) cf_X4_clear zq2_202 (by decide) (ce_17 _ _ _ _ _ _) rfl dX9_reset_35 rfl rfl (Nat.le_of_ble_eq_true rfl) ⟨Nat.le_of_ble_eq_true rfl, Nat.le_of_ble_eq_true rfl⟩ ⟨Nat.le_of_ble_eq_true rfl, Nat.le_of_ble_eq_true rfl⟩ (Nat.le_of_ble_eq_true rfl) (Nat.le_of_ble_eq_true rfl) (fun _ _ h => h.elim) (fun _ τ35 hp => ?_)
      refine gz_norm (st' := []) (cells' := 0) (slots' := 0) rfl rfl rfl ?_
      refine gz_aload_n K dX9_reset_38 1 rfl ?_
      refine gz_iconst K (v := (0 : Int32)) dX9_reset_39 (by decide) ?_
      refine gz_put K (x := (0 : Int32)) (by decide) (ce_0 _ _ _ _ _ _) rfl inz_X9 tyX9 tyX9_ok nmX9 13 (by decide) zq1_215 rfl (tyX9_ok _ (by decide)) rfl rfl (Nat.le_of_ble_eq_true rfl) peX9_13 dX9_reset_40 ?_
      refine gz_aload_n K dX9_reset_43 1 rfl ?_
      refine gz_iconst K (v := (0 : Int32)) dX9_reset_44 (by decide) ?_
      refine gz_put K (x := (0 : Int32)) (by decide) (ce_0 _ _ _ _ _ _) rfl inz_X9 tyX9 tyX9_ok nmX9 14 (by decide) zq1_216 rfl (tyX9_ok _ (by decide)) rfl rfl (Nat.le_of_ble_eq_true rfl) peX9_14 dX9_reset_45 ?_
      refine gz_iload_n K dX9_reset_48 0 rfl ?_
      exact gz_iret K hr hp dX9_reset_49 (Nat.le_of_ble_eq_true rfl) (Nat.le_of_ble_eq_true rfl)
    · have hp := hp.2 h
      obtain ⟨sa, hsa⟩ := K.2.2.2.2.1.2.2.1 _ (List.mem_of_getElem? (l := zStr) (i := 0) rfl)
      exact gz_throw K hex false rfl xd_IllegalArgumentException_0 xd_IllegalArgumentException_1 xd_IllegalArgumentException_2 xd_IllegalArgumentException_5 (by decide) zq2_131 zq1_14 hsa xl_94 dX9_reset_11 dX9_reset_14 dX9_reset_15 dX9_reset_17 dX9_reset_20 (Nat.le_of_ble_eq_true rfl) (Nat.le_of_ble_eq_true rfl) (Nat.le_of_ble_eq_true rfl) (Nat.le_of_ble_eq_true rfl) hp (Nat.le_of_ble_eq_true rfl) (Nat.le_of_ble_eq_true rfl)
set_option maxRecDepth 100000 in
set_option maxHeartbeats 4000000 in
theorem c_X9_positions {l : Launch} {D : va_G} {ad : Nat → Nat} {ty : Nat → ClassId} (hl : l.stackTraces = false) (hj : ∀ i j, i < 68 → j < 68 → ad i = ad j → i = j) {σ : Dz} {post : Int32 → Prop} (hp : P_X9_positions σ post) : Mz l D ad ty yX9_positions cX9_positions 1 (some .int) r_X9_positions nI0 σ [.ref (ad 0)] (fun r τ => σ = τ ∧ post r) (fun _ _ => False) := by
  refine mz_of (by decide) hl hj (Nat.le_of_ble_eq_true rfl) ?_
  intro p e s m args below meth c K hex hr
  unfold P_X9_positions at hp
  show Gz p l e r_X9_positions s m args below meth c D ad ty 1 0 0 (Ez below D ad ty nI0 (fun r τ => σ = τ ∧ post r) (fun _ _ => False) args s 0 0) σ 0 [(0, .ref (ad 0))] []
  refine gz_aload_n K dX9_positions_0 0 rfl ?_
  refine gz_get K (v := .int (gz_i σ 0 11)) (by decide) (ce_0 _ _ _ _ _ _) rfl inz_X9 11 (by decide) zq1_213 rfl dX9_positions_1 ?_
  exact gz_iret K hr ⟨rfl, hp⟩ dX9_positions_4 (Nat.le_of_ble_eq_true rfl) (Nat.le_of_ble_eq_true rfl)
set_option maxRecDepth 100000 in
set_option maxHeartbeats 4000000 in
theorem c_X9_append {l : Launch} {D : va_G} {ad : Nat → Nat} {ty : Nat → ClassId} (hl : l.stackTraces = false) (hj : ∀ i j, i < 68 → j < 68 → ad i = ad j → i = j) {σ : Dz} {x1 : Int32} {post : Int32 → Dz → Prop} {px : String → Dz → Prop} (hp : P_X9_append σ x1 post px) : Mz l D ad ty yX9_append cX9_append 2 (some .int) r_X9_append nI0 σ [.ref (ad 0), .int x1] post px := by
  refine mz_of (by decide) hl hj (Nat.le_of_ble_eq_true rfl) ?_
  intro p e s m args below meth c K hex hr
  unfold P_X9_append at hp
  show Gz p l e r_X9_append s m args below meth c D ad ty 2 0 0 (Ez below D ad ty nI0 post px args s 1 6) σ 0 [(0, .ref (ad 0)), (1, .int x1)] []
  refine gz_iload_n K dX9_append_0 1 rfl ?_
  refine gz_bipush K (v := (32 : Int32)) dX9_append_1 (by decide) ?_
  refine gz_icmp_lt K 12 dX9_append_3 (by decide) (fun h => ?_) (fun h => ?_)
  · have hp := hp.1 h
    obtain ⟨sa, hsa⟩ := K.2.2.2.2.1.2.2.1 _ (List.mem_of_getElem? (l := zStr) (i := 1) rfl)
    exact gz_throw K hex false rfl xd_IllegalArgumentException_0 xd_IllegalArgumentException_1 xd_IllegalArgumentException_2 xd_IllegalArgumentException_5 (by decide) zq2_131 zq1_14 hsa xl_94 dX9_append_12 dX9_append_15 dX9_append_16 dX9_append_18 dX9_append_21 (Nat.le_of_ble_eq_true rfl) (Nat.le_of_ble_eq_true rfl) (Nat.le_of_ble_eq_true rfl) (Nat.le_of_ble_eq_true rfl) hp (Nat.le_of_ble_eq_true rfl) (Nat.le_of_ble_eq_true rfl)
  · have hp := hp.2 h
    refine gz_iload_n K dX9_append_6 1 rfl ?_
    refine gz_bipush K (v := (126 : Int32)) dX9_append_7 (by decide) ?_
    refine gz_icmp_le K 22 dX9_append_9 (by decide) (fun h => ?_) (fun h => ?_)
    · have hp := hp.1 h
      refine gz_aload_n K dX9_append_22 0 rfl ?_
      refine gz_get K (v := .ref (ad 1)) (by decide) (ce_0 _ _ _ _ _ _) rfl inz_X9 0 (by decide) zq1_202 rfl dX9_append_23 ?_
      refine gz_iload_n K dX9_append_26 1 rfl ?_
      refine gz_callV K hex (c_X5_add K.2.2.2.2.2 K.2.2.1 hp) cf_X5_add zq2_212 (by decide) (ce_1 _ _ _ _ _ _) rfl dX9_append_27 rfl rfl (Nat.le_of_ble_eq_true rfl) ⟨Nat.le_of_ble_eq_true rfl, Nat.le_of_ble_eq_true rfl⟩ ⟨Nat.le_of_ble_eq_true rfl, Nat.le_of_ble_eq_true rfl⟩ (Nat.le_of_ble_eq_true rfl) (Nat.le_of_ble_eq_true rfl) (fun _ _ h => h.elim) (fun r27 τ27 hp => ?_)
      refine gz_norm (st' := [.int r27]) (cells' := 0) (slots' := 0) rfl rfl rfl ?_
      refine gz_if_ne K 43 dX9_append_30 (by decide) (fun h => ?_) (fun h => ?_)
      · have hp := hp.1 h
        refine gz_aload_n K dX9_append_43 0 rfl ?_
        refine gz_get K (v := .ref (ad 1)) (by decide) (ce_0 _ _ _ _ _ _) rfl inz_X9 0 (by decide) zq1_202 rfl dX9_append_44 ?_
        refine gz_callV K hex (c_X5_length K.2.2.2.2.2 K.2.2.1 hp) cf_X5_length zq2_232 (by decide) (ce_1 _ _ _ _ _ _) rfl dX9_append_47 rfl rfl (Nat.le_of_ble_eq_true rfl) ⟨Nat.le_of_ble_eq_true rfl, Nat.le_of_ble_eq_true rfl⟩ ⟨Nat.le_of_ble_eq_true rfl, Nat.le_of_ble_eq_true rfl⟩ (Nat.le_of_ble_eq_true rfl) (Nat.le_of_ble_eq_true rfl) (fun _ _ h => h.elim) (fun r47 τ hp => ?_)
        obtain ⟨rfl, hp⟩ := hp
        refine gz_norm (st' := [.int r47]) (cells' := 0) (slots' := 0) rfl rfl rfl ?_
        exact gz_iret K hr hp dX9_append_50 (Nat.le_of_ble_eq_true rfl) (Nat.le_of_ble_eq_true rfl)
      · have hp := hp.2 h
        obtain ⟨sa, hsa⟩ := K.2.2.2.2.1.2.2.1 _ (List.mem_of_getElem? (l := zStr) (i := 2) rfl)
        exact gz_throw K hex false rfl xd_IllegalStateException_0 xd_IllegalStateException_1 xd_IllegalStateException_2 xd_IllegalStateException_5 (by decide) zq2_216 zq1_15 hsa xl_110 dX9_append_33 dX9_append_36 dX9_append_37 dX9_append_39 dX9_append_42 (Nat.le_of_ble_eq_true rfl) (Nat.le_of_ble_eq_true rfl) (Nat.le_of_ble_eq_true rfl) (Nat.le_of_ble_eq_true rfl) hp (Nat.le_of_ble_eq_true rfl) (Nat.le_of_ble_eq_true rfl)
    · have hp := hp.2 h
      obtain ⟨sa, hsa⟩ := K.2.2.2.2.1.2.2.1 _ (List.mem_of_getElem? (l := zStr) (i := 1) rfl)
      exact gz_throw K hex false rfl xd_IllegalArgumentException_0 xd_IllegalArgumentException_1 xd_IllegalArgumentException_2 xd_IllegalArgumentException_5 (by decide) zq2_131 zq1_14 hsa xl_94 dX9_append_12 dX9_append_15 dX9_append_16 dX9_append_18 dX9_append_21 (Nat.le_of_ble_eq_true rfl) (Nat.le_of_ble_eq_true rfl) (Nat.le_of_ble_eq_true rfl) (Nat.le_of_ble_eq_true rfl) hp (Nat.le_of_ble_eq_true rfl) (Nat.le_of_ble_eq_true rfl)
set_option maxRecDepth 100000 in
set_option maxHeartbeats 4000000 in
theorem c_X9_checkMove {l : Launch} {D : va_G} {ad : Nat → Nat} {ty : Nat → ClassId} (hl : l.stackTraces = false) (hj : ∀ i j, i < 68 → j < 68 → ad i = ad j → i = j) {σ : Dz} {x0 : Int32} {post : Prop} {px : String → Prop} (hp : P_X9_checkMove x0 post px) : Mz l D ad ty yX9_checkMove cX9_checkMove 1 none r_X9_checkMove nV0 σ [.int x0] (fun _ τ => σ = τ ∧ post) (fun E τ => σ = τ ∧ px E) := by
  refine mz_of (by decide) hl hj (Nat.le_of_ble_eq_true rfl) ?_
  intro p e s m args below meth c K hex hr
  unfold P_X9_checkMove at hp
  show Gz p l e r_X9_checkMove s m args below meth c D ad ty 1 0 0 (Ez below D ad ty nV0 (fun _ τ => σ = τ ∧ post) (fun E τ => σ = τ ∧ px E) args s 1 6) σ 0 [(0, .int x0)] []
  refine gz_iload_n K dX9_checkMove_0 0 rfl ?_
  refine gz_if_lt K 9 dX9_checkMove_1 (by decide) (fun h => ?_) (fun h => ?_)
  · have hp := hp.1 h
    obtain ⟨sa, hsa⟩ := K.2.2.2.2.1.2.2.1 _ (List.mem_of_getElem? (l := zStr) (i := 3) rfl)
    exact gz_throw K hex true rfl xd_IndexOutOfBoundsException_0 xd_IndexOutOfBoundsException_1 xd_IndexOutOfBoundsException_2 xd_IndexOutOfBoundsException_5 (by decide) zq3_30 zq1_16 hsa xl_196 dX9_checkMove_9 dX9_checkMove_12 dX9_checkMove_13 dX9_checkMove_16 dX9_checkMove_19 (Nat.le_of_ble_eq_true rfl) (Nat.le_of_ble_eq_true rfl) (Nat.le_of_ble_eq_true rfl) (Nat.le_of_ble_eq_true rfl) ⟨rfl, hp⟩ (Nat.le_of_ble_eq_true rfl) (Nat.le_of_ble_eq_true rfl)
  · have hp := hp.2 h
    refine gz_iload_n K dX9_checkMove_4 0 rfl ?_
    refine gz_iconst K (v := (5 : Int32)) dX9_checkMove_5 (by decide) ?_
    refine gz_icmp_lt K 20 dX9_checkMove_6 (by decide) (fun h => ?_) (fun h => ?_)
    · have hp := hp.1 h
      exact gz_vret K hr ⟨rfl, hp⟩ dX9_checkMove_20 (Nat.le_of_ble_eq_true rfl) (Nat.le_of_ble_eq_true rfl)
    · have hp := hp.2 h
      obtain ⟨sa, hsa⟩ := K.2.2.2.2.1.2.2.1 _ (List.mem_of_getElem? (l := zStr) (i := 3) rfl)
      exact gz_throw K hex true rfl xd_IndexOutOfBoundsException_0 xd_IndexOutOfBoundsException_1 xd_IndexOutOfBoundsException_2 xd_IndexOutOfBoundsException_5 (by decide) zq3_30 zq1_16 hsa xl_196 dX9_checkMove_9 dX9_checkMove_12 dX9_checkMove_13 dX9_checkMove_16 dX9_checkMove_19 (Nat.le_of_ble_eq_true rfl) (Nat.le_of_ble_eq_true rfl) (Nat.le_of_ble_eq_true rfl) (Nat.le_of_ble_eq_true rfl) ⟨rfl, hp⟩ (Nat.le_of_ble_eq_true rfl) (Nat.le_of_ble_eq_true rfl)
set_option maxRecDepth 100000 in
set_option maxHeartbeats 4000000 in
theorem c_X9_define {l : Launch} {D : va_G} {ad : Nat → Nat} {ty : Nat → ClassId} (hl : l.stackTraces = false) (hj : ∀ i j, i < 68 → j < 68 → ad i = ad j → i = j) {σ : Dz} {x1 : Int32} {post : Int32 → Dz → Prop} {px : String → Dz → Prop} (hp : P_X9_define σ x1 post px) : Mz l D ad ty yX9_define cX9_define 4 (some .int) r_X9_define nI0 σ [.ref (ad 0), .int x1] post px := by
  refine mz_of (by decide) hl hj (Nat.le_of_ble_eq_true rfl) ?_
  intro p e s m args below meth c K hex hr
  unfold P_X9_define at hp
  show Gz p l e r_X9_define s m args below meth c D ad ty 4 0 0 (Ez below D ad ty nI0 post px args s 2 12) σ 0 [(0, .ref (ad 0)), (1, .int x1)] []
  refine gz_iload_n K dX9_define_0 1 rfl ?_
  refine gz_callS K hex (c_X9_checkMove K.2.2.2.2.2 K.2.2.1 hp) cf_X9_checkMove zq3_27 dX9_define_1 rfl rfl (Nat.le_of_ble_eq_true rfl) ⟨Nat.le_of_ble_eq_true rfl, Nat.le_of_ble_eq_true rfl⟩ ⟨Nat.le_of_ble_eq_true rfl, Nat.le_of_ble_eq_true rfl⟩ (Nat.le_of_ble_eq_true rfl) (Nat.le_of_ble_eq_true rfl) (fun _ _ h => h.1 ▸ h.2) (fun _ τ hp => ?_)
  obtain ⟨rfl, hp⟩ := hp
  refine gz_norm (st' := []) (cells' := 1) (slots' := 6) rfl rfl rfl ?_
  refine gz_aload_n K dX9_define_4 0 rfl ?_
  refine gz_get K (v := .ref (ad 3)) (by decide) (ce_0 _ _ _ _ _ _) rfl inz_X9 1 (by decide) zq1_203 rfl dX9_define_5 ?_
  refine gz_aload_n K dX9_define_8 0 rfl ?_
  refine gz_get K (v := .ref (ad 1)) (by decide) (ce_0 _ _ _ _ _ _) rfl inz_X9 0 (by decide) zq1_202 rfl dX9_define_9 ?_
  refine gz_aload_n K dX9_define_12 0 rfl ?_
  refine gz_get K (v := .int (gz_i σ 0 11)) (by decide) (ce_0 _ _ _ _ _ _) rfl inz_X9 11 (by decide) zq1_213 rfl dX9_define_13 ?_
  refine gz_callV K hex (c_X1_errorIn K.2.2.2.2.2 K.2.2.1 hp) cf_X1_errorIn zq3_43 (by decide) (ce_3 _ _ _ _ _ _) rfl dX9_define_16 rfl rfl (Nat.le_of_ble_eq_true rfl) ⟨Nat.le_of_ble_eq_true rfl, Nat.le_of_ble_eq_true rfl⟩ ⟨Nat.le_of_ble_eq_true rfl, Nat.le_of_ble_eq_true rfl⟩ (Nat.le_of_ble_eq_true rfl) (Nat.le_of_ble_eq_true rfl) (fun _ _ h => h.elim) (fun r16 τ16 hp => ?_)
  refine gz_norm (st' := [.int r16]) (cells' := 1) (slots' := 6) rfl rfl rfl ?_
  refine gz_istore_n K [(2, .int r16), (0, .ref (ad 0)), (1, .int x1)] dX9_define_19 (by decide) rfl ?_
  refine gz_aload_n K dX9_define_20 1 rfl ?_
  refine gz_get K (v := .ref (ad 1)) (by decide) (ce_0 _ _ _ _ _ _) rfl inz_X9 0 (by decide) zq1_202 rfl dX9_define_21 ?_
  refine gz_callV K hex (c_X5_clear K.2.2.2.2.2 K.2.2.1 hp) cf_X5_clear zq3_63 (by decide) (ce_1 _ _ _ _ _ _) rfl dX9_define_24 rfl rfl (Nat.le_of_ble_eq_true rfl) ⟨Nat.le_of_ble_eq_true rfl, Nat.le_of_ble_eq_true rfl⟩ ⟨Nat.le_of_ble_eq_true rfl, Nat.le_of_ble_eq_true rfl⟩ (Nat.le_of_ble_eq_true rfl) (Nat.le_of_ble_eq_true rfl) (fun _ _ h => h.elim) (fun _ τ24 hp => ?_)
  refine gz_norm (st' := []) (cells' := 1) (slots' := 6) rfl rfl rfl ?_
  refine gz_iload_n K dX9_define_27 0 rfl ?_
  refine gz_iconst K (v := (-1 : Int32)) dX9_define_28 (by decide) ?_
  refine gz_icmp_eq K 47 dX9_define_29 (by decide) (fun h => ?_) (fun h => ?_)
  · have hp := hp.1 h
    refine gz_aload_n K dX9_define_47 1 rfl ?_
    refine gz_get K (v := .ref (ad 3)) (by decide) (ce_0 _ _ _ _ _ _) rfl inz_X9 1 (by decide) zq1_203 rfl dX9_define_48 ?_
    refine gz_callV K hex (c_X1_effect K.2.2.2.2.2 K.2.2.1 hp) cf_X1_effect zq3_68 (by decide) (ce_3 _ _ _ _ _ _) rfl dX9_define_51 rfl rfl (Nat.le_of_ble_eq_true rfl) ⟨Nat.le_of_ble_eq_true rfl, Nat.le_of_ble_eq_true rfl⟩ ⟨Nat.le_of_ble_eq_true rfl, Nat.le_of_ble_eq_true rfl⟩ (Nat.le_of_ble_eq_true rfl) (Nat.le_of_ble_eq_true rfl) (fun _ _ h => h.elim) (fun r51 τ hp => ?_)
    obtain ⟨rfl, hp⟩ := hp
    refine gz_norm (st' := [.int r51]) (cells' := 1) (slots' := 6) rfl rfl rfl ?_
    refine gz_istore_n K [(3, .int r51), (2, .int r16), (0, .ref (ad 0)), (1, .int x1)] dX9_define_54 (by decide) rfl ?_
    refine gz_aload_n K dX9_define_55 2 rfl ?_
    refine gz_get K (v := .ref (ad 17)) (by decide) (ce_0 _ _ _ _ _ _) rfl inz_X9 6 (by decide) zq1_208 rfl dX9_define_56 ?_
    refine gz_iload_n K dX9_define_59 3 rfl ?_
    refine gz_iload_n K dX9_define_60 0 rfl ?_
    refine gz_callV K hex (c_X4_defineMove K.2.2.2.2.2 K.2.2.1 (by unfold isS; decide) hp) cf_X4_defineMove zq3_72 (by decide) (ce_17 _ _ _ _ _ _) rfl dX9_define_61 rfl rfl (Nat.le_of_ble_eq_true rfl) ⟨Nat.le_of_ble_eq_true rfl, Nat.le_of_ble_eq_true rfl⟩ ⟨Nat.le_of_ble_eq_true rfl, Nat.le_of_ble_eq_true rfl⟩ (Nat.le_of_ble_eq_true rfl) (Nat.le_of_ble_eq_true rfl) (fun _ _ h => h.elim) (fun _ τ61 hp => ?_)
    refine gz_norm (st' := []) (cells' := 1) (slots' := 6) rfl rfl rfl ?_
    refine gz_aload_n K dX9_define_64 2 rfl ?_
    refine gz_iconst K (v := (0 : Int32)) dX9_define_65 (by decide) ?_
    refine gz_put K (x := (0 : Int32)) (by decide) (ce_0 _ _ _ _ _ _) rfl inz_X9 tyX9 tyX9_ok nmX9 14 (by decide) zq1_216 rfl (tyX9_ok _ (by decide)) rfl rfl (Nat.le_of_ble_eq_true rfl) peX9_14 dX9_define_66 ?_
    refine gz_iload_n K dX9_define_69 0 rfl ?_
    refine gz_ldc K zq3_79 dX9_define_70 ?_
    refine gz_callS K hex (c_X3_differences K.2.2.2.2.2 K.2.2.1 hp) cf_X3_differences zq3_80 dX9_define_72 rfl rfl (Nat.le_of_ble_eq_true rfl) ⟨Nat.le_of_ble_eq_true rfl, Nat.le_of_ble_eq_true rfl⟩ ⟨Nat.le_of_ble_eq_true rfl, Nat.le_of_ble_eq_true rfl⟩ (Nat.le_of_ble_eq_true rfl) (Nat.le_of_ble_eq_true rfl) (fun _ _ h => h.elim) (fun r72 τ hp => ?_)
    obtain ⟨rfl, hp⟩ := hp
    refine gz_norm (st' := [.int r72]) (cells' := 1) (slots' := 6) rfl rfl rfl ?_
    exact gz_iret K hr hp dX9_define_75 (Nat.le_of_ble_eq_true rfl) (Nat.le_of_ble_eq_true rfl)
  · have hp := hp.2 h
    refine gz_aload_n K dX9_define_32 1 rfl ?_
    refine gz_iload_n K dX9_define_33 0 rfl ?_
    refine gz_put K (x := r16) (by decide) (ce_0 _ _ _ _ _ _) rfl inz_X9 tyX9 tyX9_ok nmX9 12 (by decide) zq1_214 rfl (tyX9_ok _ (by decide)) rfl rfl (Nat.le_of_ble_eq_true rfl) peX9_12 dX9_define_34 ?_
    obtain ⟨sa, hsa⟩ := K.2.2.2.2.1.2.2.1 _ (List.mem_of_getElem? (l := zStr) (i := 4) rfl)
    exact gz_throw K hex false rfl xd_IllegalArgumentException_0 xd_IllegalArgumentException_1 xd_IllegalArgumentException_2 xd_IllegalArgumentException_5 (by decide) zq2_131 zq1_14 hsa xl_94 dX9_define_37 dX9_define_40 dX9_define_41 dX9_define_43 dX9_define_46 (Nat.le_of_ble_eq_true rfl) (Nat.le_of_ble_eq_true rfl) (Nat.le_of_ble_eq_true rfl) (Nat.le_of_ble_eq_true rfl) hp (Nat.le_of_ble_eq_true rfl) (Nat.le_of_ble_eq_true rfl)
set_option maxRecDepth 100000 in
set_option maxHeartbeats 4000000 in
theorem c_X9_checkSlot {l : Launch} {D : va_G} {ad : Nat → Nat} {ty : Nat → ClassId} (hl : l.stackTraces = false) (hj : ∀ i j, i < 68 → j < 68 → ad i = ad j → i = j) {σ : Dz} {x0 : Int32} {post : Prop} {px : String → Prop} (hp : P_X9_checkSlot x0 post px) : Mz l D ad ty yX9_checkSlot cX9_checkSlot 1 none r_X9_checkSlot nV0 σ [.int x0] (fun _ τ => σ = τ ∧ post) (fun E τ => σ = τ ∧ px E) := by
  refine mz_of (by decide) hl hj (Nat.le_of_ble_eq_true rfl) ?_
  intro p e s m args below meth c K hex hr
  unfold P_X9_checkSlot at hp
  show Gz p l e r_X9_checkSlot s m args below meth c D ad ty 1 0 0 (Ez below D ad ty nV0 (fun _ τ => σ = τ ∧ post) (fun E τ => σ = τ ∧ px E) args s 1 6) σ 0 [(0, .int x0)] []
  refine gz_iload_n K dX9_checkSlot_0 0 rfl ?_
  refine gz_if_lt K 9 dX9_checkSlot_1 (by decide) (fun h => ?_) (fun h => ?_)
  · have hp := hp.1 h
    obtain ⟨sa, hsa⟩ := K.2.2.2.2.1.2.2.1 _ (List.mem_of_getElem? (l := zStr) (i := 5) rfl)
    exact gz_throw K hex true rfl xd_IndexOutOfBoundsException_0 xd_IndexOutOfBoundsException_1 xd_IndexOutOfBoundsException_2 xd_IndexOutOfBoundsException_5 (by decide) zq3_30 zq1_16 hsa xl_196 dX9_checkSlot_9 dX9_checkSlot_12 dX9_checkSlot_13 dX9_checkSlot_16 dX9_checkSlot_19 (Nat.le_of_ble_eq_true rfl) (Nat.le_of_ble_eq_true rfl) (Nat.le_of_ble_eq_true rfl) (Nat.le_of_ble_eq_true rfl) ⟨rfl, hp⟩ (Nat.le_of_ble_eq_true rfl) (Nat.le_of_ble_eq_true rfl)
  · have hp := hp.2 h
    refine gz_iload_n K dX9_checkSlot_4 0 rfl ?_
    refine gz_iconst K (v := (4 : Int32)) dX9_checkSlot_5 (by decide) ?_
    refine gz_icmp_lt K 20 dX9_checkSlot_6 (by decide) (fun h => ?_) (fun h => ?_)
    · have hp := hp.1 h
      exact gz_vret K hr ⟨rfl, hp⟩ dX9_checkSlot_20 (Nat.le_of_ble_eq_true rfl) (Nat.le_of_ble_eq_true rfl)
    · have hp := hp.2 h
      obtain ⟨sa, hsa⟩ := K.2.2.2.2.1.2.2.1 _ (List.mem_of_getElem? (l := zStr) (i := 5) rfl)
      exact gz_throw K hex true rfl xd_IndexOutOfBoundsException_0 xd_IndexOutOfBoundsException_1 xd_IndexOutOfBoundsException_2 xd_IndexOutOfBoundsException_5 (by decide) zq3_30 zq1_16 hsa xl_196 dX9_checkSlot_9 dX9_checkSlot_12 dX9_checkSlot_13 dX9_checkSlot_16 dX9_checkSlot_19 (Nat.le_of_ble_eq_true rfl) (Nat.le_of_ble_eq_true rfl) (Nat.le_of_ble_eq_true rfl) (Nat.le_of_ble_eq_true rfl) ⟨rfl, hp⟩ (Nat.le_of_ble_eq_true rfl) (Nat.le_of_ble_eq_true rfl)
set_option maxRecDepth 100000 in
set_option maxHeartbeats 4000000 in
theorem c_X9_keepDraft {l : Launch} {D : va_G} {ad : Nat → Nat} {ty : Nat → ClassId} (hl : l.stackTraces = false) (hj : ∀ i j, i < 68 → j < 68 → ad i = ad j → i = j) {σ : Dz} {x1 : Int32} {post : Int32 → Dz → Prop} (hp : P_X9_keepDraft σ x1 post) : Mz l D ad ty yX9_keepDraft cX9_keepDraft 2 (some .int) r_X9_keepDraft nI0 σ [.ref (ad 0), .int x1] post (fun _ _ => False) := by
  refine mz_of (by decide) hl hj (Nat.le_of_ble_eq_true rfl) ?_
  intro p e s m args below meth c K hex hr
  unfold P_X9_keepDraft at hp
  show Gz p l e r_X9_keepDraft s m args below meth c D ad ty 2 0 0 (Ez below D ad ty nI0 post (fun _ _ => False) args s 0 0) σ 0 [(0, .ref (ad 0)), (1, .int x1)] []
  refine gz_aload_n K dX9_keepDraft_0 0 rfl ?_
  refine gz_get K (v := .ref (ad 17)) (by decide) (ce_0 _ _ _ _ _ _) rfl inz_X9 6 (by decide) zq1_208 rfl dX9_keepDraft_1 ?_
  refine gz_iload_n K dX9_keepDraft_4 1 rfl ?_
  refine gz_callV K hex (c_X4_word K.2.2.2.2.2 K.2.2.1 (by unfold isS; decide) hp) cf_X4_word zq3_191 (by decide) (ce_17 _ _ _ _ _ _) rfl dX9_keepDraft_5 rfl rfl (Nat.le_of_ble_eq_true rfl) ⟨Nat.le_of_ble_eq_true rfl, Nat.le_of_ble_eq_true rfl⟩ ⟨Nat.le_of_ble_eq_true rfl, Nat.le_of_ble_eq_true rfl⟩ (Nat.le_of_ble_eq_true rfl) (Nat.le_of_ble_eq_true rfl) (fun _ _ h => h.elim) (fun r5 τ hp => ?_)
  obtain ⟨rfl, hp⟩ := hp
  obtain ⟨u5, hp⟩ := hp
  refine gz_norm (st' := [.ref (ad r5)]) (cells' := 0) (slots' := 0) rfl rfl rfl ?_
  refine gz_aload_n K dX9_keepDraft_8 0 rfl ?_
  refine gz_get K (v := .ref (ad 39)) (by decide) (ce_0 _ _ _ _ _ _) rfl inz_X9 8 (by decide) zq1_210 rfl dX9_keepDraft_9 ?_
  refine gz_callV K hex (c_X6_copyFrom K.2.2.2.2.2 K.2.2.1 u5 (by unfold isW; decide) hp) cf_X6_copyFrom zq3_195 (ceW u5).1 ((ceW u5).2 _ _ _ _ _ _) rfl dX9_keepDraft_12 rfl rfl (Nat.le_of_ble_eq_true rfl) ⟨Nat.le_of_ble_eq_true rfl, Nat.le_of_ble_eq_true rfl⟩ ⟨Nat.le_of_ble_eq_true rfl, Nat.le_of_ble_eq_true rfl⟩ (Nat.le_of_ble_eq_true rfl) (Nat.le_of_ble_eq_true rfl) (fun _ _ h => h.elim) (fun _ τ12 hp => ?_)
  refine gz_norm (st' := []) (cells' := 0) (slots' := 0) rfl rfl rfl ?_
  refine gz_aload_n K dX9_keepDraft_15 0 rfl ?_
  refine gz_get K (v := .ref (ad 39)) (by decide) (ce_0 _ _ _ _ _ _) rfl inz_X9 8 (by decide) zq1_210 rfl dX9_keepDraft_16 ?_
  refine gz_callV K hex (c_X6_length K.2.2.2.2.2 K.2.2.1 (by unfold isW; decide) hp) cf_X6_length zq3_196 (by decide) (ce_39 _ _ _ _ _ _) rfl dX9_keepDraft_19 rfl rfl (Nat.le_of_ble_eq_true rfl) ⟨Nat.le_of_ble_eq_true rfl, Nat.le_of_ble_eq_true rfl⟩ ⟨Nat.le_of_ble_eq_true rfl, Nat.le_of_ble_eq_true rfl⟩ (Nat.le_of_ble_eq_true rfl) (Nat.le_of_ble_eq_true rfl) (fun _ _ h => h.elim) (fun r19 τ hp => ?_)
  obtain ⟨rfl, hp⟩ := hp
  refine gz_norm (st' := [.int r19]) (cells' := 0) (slots' := 0) rfl rfl rfl ?_
  exact gz_iret K hr hp dX9_keepDraft_22 (Nat.le_of_ble_eq_true rfl) (Nat.le_of_ble_eq_true rfl)
set_option maxRecDepth 100000 in
set_option maxHeartbeats 4000000 in
theorem c_X9_store {l : Launch} {D : va_G} {ad : Nat → Nat} {ty : Nat → ClassId} (hl : l.stackTraces = false) (hj : ∀ i j, i < 68 → j < 68 → ad i = ad j → i = j) {σ : Dz} {x1 : Int32} {post : Int32 → Dz → Prop} {px : String → Dz → Prop} (hp : P_X9_store σ x1 post px) : Mz l D ad ty yX9_store cX9_store 5 (some .int) r_X9_store nI0 σ [.ref (ad 0), .int x1] post px := by
  refine mz_of (by decide) hl hj (Nat.le_of_ble_eq_true rfl) ?_
  intro p e s m args below meth c K hex hr
  unfold P_X9_store at hp
  have bb_68 : ∀ (σ : Dz) (y1 : Int32) (y2 : Int32) (y3 : Int32) (z0 : Int32) , B_X9_store_68 post px  σ y1 y2 y3 z0 → Gz p l e r_X9_store s m args below meth c D ad ty 5 1 6 (Ez below D ad ty nI0 post px args s 2 12) σ 68 [(0, .ref (ad 0)), (1, .int y1), (2, .int y2), (3, .int y3)] [.int z0] := by
    intro σ y1 y2 y3 z0 hp
    unfold B_X9_store_68 at hp
    refine gz_istore K [(4, .int z0), (0, .ref (ad 0)), (1, .int y1), (2, .int y2), (3, .int y3)] dX9_store_68 (by decide) rfl ?_
    refine gz_aload_n K dX9_store_70 1 rfl ?_
    refine gz_get K (v := .ref (ad 1)) (by decide) (ce_0 _ _ _ _ _ _) rfl inz_X9 0 (by decide) zq1_202 rfl dX9_store_71 ?_
    refine gz_callV K hex (c_X5_clear K.2.2.2.2.2 K.2.2.1 hp) cf_X5_clear zq3_63 (by decide) (ce_1 _ _ _ _ _ _) rfl dX9_store_74 rfl rfl (Nat.le_of_ble_eq_true rfl) ⟨Nat.le_of_ble_eq_true rfl, Nat.le_of_ble_eq_true rfl⟩ ⟨Nat.le_of_ble_eq_true rfl, Nat.le_of_ble_eq_true rfl⟩ (Nat.le_of_ble_eq_true rfl) (Nat.le_of_ble_eq_true rfl) (fun _ _ h => h.elim) (fun _ τ74 hp => ?_)
    refine gz_norm (st' := []) (cells' := 1) (slots' := 6) rfl rfl rfl ?_
    refine gz_iload_n K dX9_store_77 3 rfl ?_
    refine gz_iconst K (v := (-1 : Int32)) dX9_store_78 (by decide) ?_
    refine gz_icmp_eq K 97 dX9_store_79 (by decide) (fun h => ?_) (fun h => ?_)
    · have hp := hp.1 h
      refine gz_iload_n K dX9_store_97 4 rfl ?_
      refine gz_if_ne K 111 dX9_store_98 (by decide) (fun h => ?_) (fun h => ?_)
      · have hp := hp.1 h
        refine gz_iload K dX9_store_111 0 rfl ?_
        refine gz_if_ne K 126 dX9_store_113 (by decide) (fun h => ?_) (fun h => ?_)
        · have hp := hp.1 h
          refine gz_aload_n K dX9_store_126 1 rfl ?_
          refine gz_iload_n K dX9_store_127 2 rfl ?_
          refine gz_callV K hex (c_X9_keepDraft K.2.2.2.2.2 K.2.2.1 hp) cf_X9_keepDraft zq3_187 (by decide) (ce_0 _ _ _ _ _ _) rfl dX9_store_128 rfl rfl (Nat.le_of_ble_eq_true rfl) ⟨Nat.le_of_ble_eq_true rfl, Nat.le_of_ble_eq_true rfl⟩ ⟨Nat.le_of_ble_eq_true rfl, Nat.le_of_ble_eq_true rfl⟩ (Nat.le_of_ble_eq_true rfl) (Nat.le_of_ble_eq_true rfl) (fun _ _ h => h.elim) (fun r128 τ128 hp => ?_)
          refine gz_norm (st' := [.int r128]) (cells' := 1) (slots' := 6) rfl rfl rfl ?_
          exact gz_iret K hr hp dX9_store_131 (Nat.le_of_ble_eq_true rfl) (Nat.le_of_ble_eq_true rfl)
        · have hp := hp.2 h
          obtain ⟨sa, hsa⟩ := K.2.2.2.2.1.2.2.1 _ (List.mem_of_getElem? (l := zStr) (i := 8) rfl)
          exact gz_throw K hex false rfl xd_ArithmeticException_0 xd_ArithmeticException_1 xd_ArithmeticException_2 xd_ArithmeticException_5 (by decide) zq3_184 zq1_20 hsa xl_162 dX9_store_116 dX9_store_119 dX9_store_120 dX9_store_122 dX9_store_125 (Nat.le_of_ble_eq_true rfl) (Nat.le_of_ble_eq_true rfl) (Nat.le_of_ble_eq_true rfl) (Nat.le_of_ble_eq_true rfl) hp (Nat.le_of_ble_eq_true rfl) (Nat.le_of_ble_eq_true rfl)
      · have hp := hp.2 h
        obtain ⟨sa, hsa⟩ := K.2.2.2.2.1.2.2.1 _ (List.mem_of_getElem? (l := zStr) (i := 7) rfl)
        exact gz_throw K hex false rfl xd_IllegalStateException_0 xd_IllegalStateException_1 xd_IllegalStateException_2 xd_IllegalStateException_5 (by decide) zq2_216 zq1_15 hsa xl_110 dX9_store_101 dX9_store_104 dX9_store_105 dX9_store_107 dX9_store_110 (Nat.le_of_ble_eq_true rfl) (Nat.le_of_ble_eq_true rfl) (Nat.le_of_ble_eq_true rfl) (Nat.le_of_ble_eq_true rfl) hp (Nat.le_of_ble_eq_true rfl) (Nat.le_of_ble_eq_true rfl)
    · have hp := hp.2 h
      refine gz_aload_n K dX9_store_82 1 rfl ?_
      refine gz_iload_n K dX9_store_83 3 rfl ?_
      refine gz_put K (x := y2) (by decide) (ce_0 _ _ _ _ _ _) rfl inz_X9 tyX9 tyX9_ok nmX9 12 (by decide) zq1_214 rfl (tyX9_ok _ (by decide)) rfl rfl (Nat.le_of_ble_eq_true rfl) peX9_12 dX9_store_84 ?_
      obtain ⟨sa, hsa⟩ := K.2.2.2.2.1.2.2.1 _ (List.mem_of_getElem? (l := zStr) (i := 6) rfl)
      exact gz_throw K hex false rfl xd_IllegalArgumentException_0 xd_IllegalArgumentException_1 xd_IllegalArgumentException_2 xd_IllegalArgumentException_5 (by decide) zq2_131 zq1_14 hsa xl_94 dX9_store_87 dX9_store_90 dX9_store_91 dX9_store_93 dX9_store_96 (Nat.le_of_ble_eq_true rfl) (Nat.le_of_ble_eq_true rfl) (Nat.le_of_ble_eq_true rfl) (Nat.le_of_ble_eq_true rfl) hp (Nat.le_of_ble_eq_true rfl) (Nat.le_of_ble_eq_true rfl)
  have bb_67 : ∀ (σ : Dz) (y1 : Int32) (y2 : Int32) (y3 : Int32) , B_X9_store_67 post px  σ y1 y2 y3 → Gz p l e r_X9_store s m args below meth c D ad ty 5 1 6 (Ez below D ad ty nI0 post px args s 2 12) σ 67 [(0, .ref (ad 0)), (1, .int y1), (2, .int y2), (3, .int y3)] [] := by
    intro σ y1 y2 y3 hp
    unfold B_X9_store_67 at hp
    refine gz_iconst K (v := (0 : Int32)) dX9_store_67 (by decide) ?_
    exact bb_68 σ y1 y2 y3 (0 : Int32)  hp
  have bb_40 : ∀ (σ : Dz) (y1 : Int32) (y2 : Int32) (z0 : Int32) , B_X9_store_40 post px  σ y1 y2 z0 → Gz p l e r_X9_store s m args below meth c D ad ty 5 1 6 (Ez below D ad ty nI0 post px args s 2 12) σ 40 [(0, .ref (ad 0)), (1, .int y1), (2, .int y2)] [.int z0] := by
    intro σ y1 y2 z0 hp
    unfold B_X9_store_40 at hp
    refine gz_istore_n K [(3, .int z0), (0, .ref (ad 0)), (1, .int y1), (2, .int y2)] dX9_store_40 (by decide) rfl ?_
    refine gz_iload_n K dX9_store_41 0 rfl ?_
    refine gz_if_eq K 67 dX9_store_42 (by decide) (fun h => ?_) (fun h => ?_)
    · have hp := hp.1 h
      refine gz_sub [1, 2, 3, 0] rfl ?_
      exact bb_67 σ y1 y2 z0  hp
    · have hp := hp.2 h
      refine gz_aload_n K dX9_store_45 1 rfl ?_
      refine gz_get K (v := .ref (ad 6)) (by decide) (ce_0 _ _ _ _ _ _) rfl inz_X9 3 (by decide) zq1_205 rfl dX9_store_46 ?_
      refine gz_aload_n K dX9_store_49 1 rfl ?_
      refine gz_get K (v := .ref (ad 1)) (by decide) (ce_0 _ _ _ _ _ _) rfl inz_X9 0 (by decide) zq1_202 rfl dX9_store_50 ?_
      refine gz_aload_n K dX9_store_53 1 rfl ?_
      refine gz_get K (v := .ref (ad 39)) (by decide) (ce_0 _ _ _ _ _ _) rfl inz_X9 8 (by decide) zq1_210 rfl dX9_store_54 ?_
      refine gz_callV K hex (c_X8_write K.2.2.2.2.2 K.2.2.1 (by unfold isW; decide) hp) cf_X8_write zq3_140 (by decide) (ce_6 _ _ _ _ _ _) rfl dX9_store_57 rfl rfl (Nat.le_of_ble_eq_true rfl) ⟨Nat.le_of_ble_eq_true rfl, Nat.le_of_ble_eq_true rfl⟩ ⟨Nat.le_of_ble_eq_true rfl, Nat.le_of_ble_eq_true rfl⟩ (Nat.le_of_ble_eq_true rfl) (Nat.le_of_ble_eq_true rfl) (fun _ _ h => h.elim) (fun r57 τ57 hp => ?_)
      refine gz_norm (st' := [.int r57]) (cells' := 1) (slots' := 6) rfl rfl rfl ?_
      refine gz_if_eq K 67 dX9_store_60 (by decide) (fun h => ?_) (fun h => ?_)
      · have hp := hp.1 h
        refine gz_sub [1, 2, 3, 0] rfl ?_
        exact bb_67 τ57 y1 y2 z0  hp
      · have hp := hp.2 h
        refine gz_iconst K (v := (1 : Int32)) dX9_store_63 (by decide) ?_
        refine gz_goto K 68 dX9_store_64 (by decide) ?_
        refine gz_sub [1, 2, 3, 0] rfl ?_
        exact bb_68 τ57 y1 y2 z0 (1 : Int32)  hp
  have bb_39 : ∀ (σ : Dz) (y1 : Int32) (y2 : Int32) , B_X9_store_39 post px  σ y1 y2 → Gz p l e r_X9_store s m args below meth c D ad ty 5 1 6 (Ez below D ad ty nI0 post px args s 2 12) σ 39 [(0, .ref (ad 0)), (1, .int y1), (2, .int y2)] [] := by
    intro σ y1 y2 hp
    unfold B_X9_store_39 at hp
    refine gz_iconst K (v := (0 : Int32)) dX9_store_39 (by decide) ?_
    exact bb_40 σ y1 y2 (0 : Int32)  hp
  show Gz p l e r_X9_store s m args below meth c D ad ty 5 0 0 (Ez below D ad ty nI0 post px args s 2 12) σ 0 [(0, .ref (ad 0)), (1, .int x1)] []
  refine gz_iload_n K dX9_store_0 1 rfl ?_
  refine gz_callS K hex (c_X9_checkSlot K.2.2.2.2.2 K.2.2.1 hp) cf_X9_checkSlot zq3_104 dX9_store_1 rfl rfl (Nat.le_of_ble_eq_true rfl) ⟨Nat.le_of_ble_eq_true rfl, Nat.le_of_ble_eq_true rfl⟩ ⟨Nat.le_of_ble_eq_true rfl, Nat.le_of_ble_eq_true rfl⟩ (Nat.le_of_ble_eq_true rfl) (Nat.le_of_ble_eq_true rfl) (fun _ _ h => h.1 ▸ h.2) (fun _ τ hp => ?_)
  obtain ⟨rfl, hp⟩ := hp
  refine gz_norm (st' := []) (cells' := 1) (slots' := 6) rfl rfl rfl ?_
  refine gz_aload_n K dX9_store_4 0 rfl ?_
  refine gz_get K (v := .ref (ad 4)) (by decide) (ce_0 _ _ _ _ _ _) rfl inz_X9 2 (by decide) zq1_204 rfl dX9_store_5 ?_
  refine gz_aload_n K dX9_store_8 0 rfl ?_
  refine gz_get K (v := .ref (ad 1)) (by decide) (ce_0 _ _ _ _ _ _) rfl inz_X9 0 (by decide) zq1_202 rfl dX9_store_9 ?_
  refine gz_callV K hex (c_X7_errorIn K.2.2.2.2.2 K.2.2.1 hp) cf_X7_errorIn zq3_108 (by decide) (ce_4 _ _ _ _ _ _) rfl dX9_store_12 rfl rfl (Nat.le_of_ble_eq_true rfl) ⟨Nat.le_of_ble_eq_true rfl, Nat.le_of_ble_eq_true rfl⟩ ⟨Nat.le_of_ble_eq_true rfl, Nat.le_of_ble_eq_true rfl⟩ (Nat.le_of_ble_eq_true rfl) (Nat.le_of_ble_eq_true rfl) (fun _ _ h => h.elim) (fun r12 τ12 hp => ?_)
  refine gz_norm (st' := [.int r12]) (cells' := 1) (slots' := 6) rfl rfl rfl ?_
  refine gz_istore_n K [(2, .int r12), (0, .ref (ad 0)), (1, .int x1)] dX9_store_15 (by decide) rfl ?_
  refine gz_iload_n K dX9_store_16 0 rfl ?_
  refine gz_iconst K (v := (-1 : Int32)) dX9_store_17 (by decide) ?_
  refine gz_icmp_ne K 39 dX9_store_18 (by decide) (fun h => ?_) (fun h => ?_)
  · have hp := hp.1 h
    refine gz_sub [1, 2, 0] rfl ?_
    exact bb_39 τ12 x1 r12  hp
  · have hp := hp.2 h
    refine gz_aload_n K dX9_store_21 1 rfl ?_
    refine gz_get K (v := .ref (ad 17)) (by decide) (ce_0 _ _ _ _ _ _) rfl inz_X9 6 (by decide) zq1_208 rfl dX9_store_22 ?_
    refine gz_aload_n K dX9_store_25 1 rfl ?_
    refine gz_get K (v := .ref (ad 1)) (by decide) (ce_0 _ _ _ _ _ _) rfl inz_X9 0 (by decide) zq1_202 rfl dX9_store_26 ?_
    refine gz_callV K hex (c_X4_definesNamesIn K.2.2.2.2.2 K.2.2.1 (by unfold isS; decide) hp) cf_X4_definesNamesIn zq3_129 (by decide) (ce_17 _ _ _ _ _ _) rfl dX9_store_29 rfl rfl (Nat.le_of_ble_eq_true rfl) ⟨Nat.le_of_ble_eq_true rfl, Nat.le_of_ble_eq_true rfl⟩ ⟨Nat.le_of_ble_eq_true rfl, Nat.le_of_ble_eq_true rfl⟩ (Nat.le_of_ble_eq_true rfl) (Nat.le_of_ble_eq_true rfl) (fun _ _ h => h.elim) (fun r29 τ hp => ?_)
    obtain ⟨rfl, hp⟩ := hp
    refine gz_norm (st' := [.int r29]) (cells' := 1) (slots' := 6) rfl rfl rfl ?_
    refine gz_if_eq K 39 dX9_store_32 (by decide) (fun h => ?_) (fun h => ?_)
    · have hp := hp.1 h
      refine gz_sub [1, 2, 0] rfl ?_
      exact bb_39 τ12 x1 r12  hp
    · have hp := hp.2 h
      refine gz_iconst K (v := (1 : Int32)) dX9_store_35 (by decide) ?_
      refine gz_goto K 40 dX9_store_36 (by decide) ?_
      refine gz_sub [1, 2, 0] rfl ?_
      exact bb_40 τ12 x1 r12 (1 : Int32)  hp
set_option maxRecDepth 100000 in
set_option maxHeartbeats 4000000 in
theorem c_X9_errorPosition {l : Launch} {D : va_G} {ad : Nat → Nat} {ty : Nat → ClassId} (hl : l.stackTraces = false) (hj : ∀ i j, i < 68 → j < 68 → ad i = ad j → i = j) {σ : Dz} {post : Int32 → Prop} {px : String → Prop} (hp : P_X9_errorPosition σ post px) : Mz l D ad ty yX9_errorPosition cX9_errorPosition 1 (some .int) r_X9_errorPosition nI0 σ [.ref (ad 0)] (fun r τ => σ = τ ∧ post r) (fun E τ => σ = τ ∧ px E) := by
  refine mz_of (by decide) hl hj (Nat.le_of_ble_eq_true rfl) ?_
  intro p e s m args below meth c K hex hr
  unfold P_X9_errorPosition at hp
  show Gz p l e r_X9_errorPosition s m args below meth c D ad ty 1 0 0 (Ez below D ad ty nI0 (fun r τ => σ = τ ∧ post r) (fun E τ => σ = τ ∧ px E) args s 1 6) σ 0 [(0, .ref (ad 0))] []
  refine gz_aload_n K dX9_errorPosition_0 0 rfl ?_
  refine gz_get K (v := .int (gz_i σ 0 12)) (by decide) (ce_0 _ _ _ _ _ _) rfl inz_X9 12 (by decide) zq1_214 rfl dX9_errorPosition_1 ?_
  refine gz_iconst K (v := (-1 : Int32)) dX9_errorPosition_4 (by decide) ?_
  refine gz_icmp_ne K 18 dX9_errorPosition_5 (by decide) (fun h => ?_) (fun h => ?_)
  · have hp := hp.1 h
    refine gz_aload_n K dX9_errorPosition_18 0 rfl ?_
    refine gz_get K (v := .int (gz_i σ 0 12)) (by decide) (ce_0 _ _ _ _ _ _) rfl inz_X9 12 (by decide) zq1_214 rfl dX9_errorPosition_19 ?_
    exact gz_iret K hr ⟨rfl, hp⟩ dX9_errorPosition_22 (Nat.le_of_ble_eq_true rfl) (Nat.le_of_ble_eq_true rfl)
  · have hp := hp.2 h
    obtain ⟨sa, hsa⟩ := K.2.2.2.2.1.2.2.1 _ (List.mem_of_getElem? (l := zStr) (i := 9) rfl)
    exact gz_throw K hex false rfl xd_NoSuchElementException_0 xd_NoSuchElementException_1 xd_NoSuchElementException_2 xd_NoSuchElementException_5 (by decide) zq3_205 zq1_21 hsa xl_171 dX9_errorPosition_8 dX9_errorPosition_11 dX9_errorPosition_12 dX9_errorPosition_14 dX9_errorPosition_17 (Nat.le_of_ble_eq_true rfl) (Nat.le_of_ble_eq_true rfl) (Nat.le_of_ble_eq_true rfl) (Nat.le_of_ble_eq_true rfl) ⟨rfl, hp⟩ (Nat.le_of_ble_eq_true rfl) (Nat.le_of_ble_eq_true rfl)
set_option maxRecDepth 100000 in
set_option maxHeartbeats 4000000 in
theorem c_X9_checkPosition {l : Launch} {D : va_G} {ad : Nat → Nat} {ty : Nat → ClassId} (hl : l.stackTraces = false) (hj : ∀ i j, i < 68 → j < 68 → ad i = ad j → i = j) {σ : Dz} {x1 : Int32} {post : Prop} {px : String → Prop} (hp : P_X9_checkPosition σ x1 post px) : Mz l D ad ty yX9_checkPosition cX9_checkPosition 2 none r_X9_checkPosition nV0 σ [.ref (ad 0), .int x1] (fun _ τ => σ = τ ∧ post) (fun E τ => σ = τ ∧ px E) := by
  refine mz_of (by decide) hl hj (Nat.le_of_ble_eq_true rfl) ?_
  intro p e s m args below meth c K hex hr
  unfold P_X9_checkPosition at hp
  show Gz p l e r_X9_checkPosition s m args below meth c D ad ty 2 0 0 (Ez below D ad ty nV0 (fun _ τ => σ = τ ∧ post) (fun E τ => σ = τ ∧ px E) args s 1 6) σ 0 [(0, .ref (ad 0)), (1, .int x1)] []
  refine gz_iload_n K dX9_checkPosition_0 1 rfl ?_
  refine gz_iconst K (v := (1 : Int32)) dX9_checkPosition_1 (by decide) ?_
  refine gz_icmp_lt K 13 dX9_checkPosition_2 (by decide) (fun h => ?_) (fun h => ?_)
  · have hp := hp.1 h
    obtain ⟨sa, hsa⟩ := K.2.2.2.2.1.2.2.1 _ (List.mem_of_getElem? (l := zStr) (i := 10) rfl)
    exact gz_throw K hex true rfl xd_IndexOutOfBoundsException_0 xd_IndexOutOfBoundsException_1 xd_IndexOutOfBoundsException_2 xd_IndexOutOfBoundsException_5 (by decide) zq3_30 zq1_16 hsa xl_196 dX9_checkPosition_13 dX9_checkPosition_16 dX9_checkPosition_17 dX9_checkPosition_20 dX9_checkPosition_23 (Nat.le_of_ble_eq_true rfl) (Nat.le_of_ble_eq_true rfl) (Nat.le_of_ble_eq_true rfl) (Nat.le_of_ble_eq_true rfl) ⟨rfl, hp⟩ (Nat.le_of_ble_eq_true rfl) (Nat.le_of_ble_eq_true rfl)
  · have hp := hp.2 h
    refine gz_iload_n K dX9_checkPosition_5 1 rfl ?_
    refine gz_aload_n K dX9_checkPosition_6 0 rfl ?_
    refine gz_get K (v := .int (gz_i σ 0 11)) (by decide) (ce_0 _ _ _ _ _ _) rfl inz_X9 11 (by decide) zq1_213 rfl dX9_checkPosition_7 ?_
    refine gz_icmp_le K 24 dX9_checkPosition_10 (by decide) (fun h => ?_) (fun h => ?_)
    · have hp := hp.1 h
      exact gz_vret K hr ⟨rfl, hp⟩ dX9_checkPosition_24 (Nat.le_of_ble_eq_true rfl) (Nat.le_of_ble_eq_true rfl)
    · have hp := hp.2 h
      obtain ⟨sa, hsa⟩ := K.2.2.2.2.1.2.2.1 _ (List.mem_of_getElem? (l := zStr) (i := 10) rfl)
      exact gz_throw K hex true rfl xd_IndexOutOfBoundsException_0 xd_IndexOutOfBoundsException_1 xd_IndexOutOfBoundsException_2 xd_IndexOutOfBoundsException_5 (by decide) zq3_30 zq1_16 hsa xl_196 dX9_checkPosition_13 dX9_checkPosition_16 dX9_checkPosition_17 dX9_checkPosition_20 dX9_checkPosition_23 (Nat.le_of_ble_eq_true rfl) (Nat.le_of_ble_eq_true rfl) (Nat.le_of_ble_eq_true rfl) (Nat.le_of_ble_eq_true rfl) ⟨rfl, hp⟩ (Nat.le_of_ble_eq_true rfl) (Nat.le_of_ble_eq_true rfl)
set_option maxRecDepth 100000 in
set_option maxHeartbeats 4000000 in
theorem c_X9_target {l : Launch} {D : va_G} {ad : Nat → Nat} {ty : Nat → ClassId} (hl : l.stackTraces = false) (hj : ∀ i j, i < 68 → j < 68 → ad i = ad j → i = j) {σ : Dz} {x1 : Int32} {x2 : Int32} {post : Int32 → Prop} {px : String → Prop} (hp : P_X9_target σ x1 x2 post px) : Mz l D ad ty yX9_target cX9_target 3 (some .int) r_X9_target nI0 σ [.ref (ad 0), .int x1, .int x2] (fun r τ => σ = τ ∧ post r) (fun E τ => σ = τ ∧ px E) := by
  refine mz_of (by decide) hl hj (Nat.le_of_ble_eq_true rfl) ?_
  intro p e s m args below meth c K hex hr
  unfold P_X9_target at hp
  show Gz p l e r_X9_target s m args below meth c D ad ty 3 0 0 (Ez below D ad ty nI0 (fun r τ => σ = τ ∧ post r) (fun E τ => σ = τ ∧ px E) args s 3 18) σ 0 [(0, .ref (ad 0)), (1, .int x1), (2, .int x2)] []
  refine gz_iload_n K dX9_target_0 1 rfl ?_
  refine gz_callS K hex (c_X9_checkMove K.2.2.2.2.2 K.2.2.1 hp) cf_X9_checkMove zq3_27 dX9_target_1 rfl rfl (Nat.le_of_ble_eq_true rfl) ⟨Nat.le_of_ble_eq_true rfl, Nat.le_of_ble_eq_true rfl⟩ ⟨Nat.le_of_ble_eq_true rfl, Nat.le_of_ble_eq_true rfl⟩ (Nat.le_of_ble_eq_true rfl) (Nat.le_of_ble_eq_true rfl) (fun _ _ h => ⟨h.1, h.2⟩) (fun _ τ hp => ?_)
  obtain ⟨rfl, hp⟩ := hp
  refine gz_norm (st' := []) (cells' := 1) (slots' := 6) rfl rfl rfl ?_
  refine gz_aload_n K dX9_target_4 0 rfl ?_
  refine gz_iload_n K dX9_target_5 2 rfl ?_
  refine gz_callV K hex (c_X9_checkPosition K.2.2.2.2.2 K.2.2.1 hp) cf_X9_checkPosition zq3_228 (by decide) (ce_0 _ _ _ _ _ _) rfl dX9_target_6 rfl rfl (Nat.le_of_ble_eq_true rfl) ⟨Nat.le_of_ble_eq_true rfl, Nat.le_of_ble_eq_true rfl⟩ ⟨Nat.le_of_ble_eq_true rfl, Nat.le_of_ble_eq_true rfl⟩ (Nat.le_of_ble_eq_true rfl) (Nat.le_of_ble_eq_true rfl) (fun _ _ h => ⟨h.1, h.2⟩) (fun _ τ hp => ?_)
  obtain ⟨rfl, hp⟩ := hp
  refine gz_norm (st' := []) (cells' := 2) (slots' := 12) rfl rfl rfl ?_
  refine gz_aload_n K dX9_target_9 0 rfl ?_
  refine gz_get K (v := .ref (ad 17)) (by decide) (ce_0 _ _ _ _ _ _) rfl inz_X9 6 (by decide) zq1_208 rfl dX9_target_10 ?_
  refine gz_iload_n K dX9_target_13 1 rfl ?_
  refine gz_callV K hex (c_X4_isDefined K.2.2.2.2.2 K.2.2.1 (by unfold isS; decide) hp) cf_X4_isDefined zq3_233 (by decide) (ce_17 _ _ _ _ _ _) rfl dX9_target_14 rfl rfl (Nat.le_of_ble_eq_true rfl) ⟨Nat.le_of_ble_eq_true rfl, Nat.le_of_ble_eq_true rfl⟩ ⟨Nat.le_of_ble_eq_true rfl, Nat.le_of_ble_eq_true rfl⟩ (Nat.le_of_ble_eq_true rfl) (Nat.le_of_ble_eq_true rfl) (fun _ _ h => h.elim) (fun r14 τ hp => ?_)
  obtain ⟨rfl, hp⟩ := hp
  refine gz_norm (st' := [.int r14]) (cells' := 2) (slots' := 12) rfl rfl rfl ?_
  refine gz_if_ne K 30 dX9_target_17 (by decide) (fun h => ?_) (fun h => ?_)
  · have hp := hp.1 h
    refine gz_aload_n K dX9_target_30 0 rfl ?_
    refine gz_get K (v := .ref (ad 17)) (by decide) (ce_0 _ _ _ _ _ _) rfl inz_X9 6 (by decide) zq1_208 rfl dX9_target_31 ?_
    refine gz_iconst K (v := (2 : Int32)) dX9_target_34 (by decide) ?_
    refine gz_iload_n K dX9_target_35 1 rfl ?_
    refine gz_imul K dX9_target_36 ?_
    refine gz_callV K hex (c_X4_effectOfLetter K.2.2.2.2.2 K.2.2.1 (by unfold isS; decide) hp) cf_X4_effectOfLetter zq3_235 (by decide) (ce_17 _ _ _ _ _ _) rfl dX9_target_37 rfl rfl (Nat.le_of_ble_eq_true rfl) ⟨Nat.le_of_ble_eq_true rfl, Nat.le_of_ble_eq_true rfl⟩ ⟨Nat.le_of_ble_eq_true rfl, Nat.le_of_ble_eq_true rfl⟩ (Nat.le_of_ble_eq_true rfl) (Nat.le_of_ble_eq_true rfl) (fun _ _ h => h.elim) (fun r37 τ hp => ?_)
    obtain ⟨rfl, hp⟩ := hp
    refine gz_norm (st' := [.int r37]) (cells' := 2) (slots' := 12) rfl rfl rfl ?_
    refine gz_iload_n K dX9_target_40 2 rfl ?_
    refine gz_iconst K (v := (1 : Int32)) dX9_target_41 (by decide) ?_
    refine gz_isub K dX9_target_42 ?_
    refine gz_callS K hex (c_X3_imageOf K.2.2.2.2.2 K.2.2.1 hp) cf_X3_imageOf zq3_236 dX9_target_43 rfl rfl (Nat.le_of_ble_eq_true rfl) ⟨Nat.le_of_ble_eq_true rfl, Nat.le_of_ble_eq_true rfl⟩ ⟨Nat.le_of_ble_eq_true rfl, Nat.le_of_ble_eq_true rfl⟩ (Nat.le_of_ble_eq_true rfl) (Nat.le_of_ble_eq_true rfl) (fun _ _ h => h.elim) (fun r43 τ hp => ?_)
    obtain ⟨rfl, hp⟩ := hp
    refine gz_norm (st' := [.int r43]) (cells' := 2) (slots' := 12) rfl rfl rfl ?_
    refine gz_iconst K (v := (1 : Int32)) dX9_target_46 (by decide) ?_
    refine gz_iadd K dX9_target_47 ?_
    exact gz_iret K hr ⟨rfl, hp⟩ dX9_target_48 (Nat.le_of_ble_eq_true rfl) (Nat.le_of_ble_eq_true rfl)
  · have hp := hp.2 h
    obtain ⟨sa, hsa⟩ := K.2.2.2.2.1.2.2.1 _ (List.mem_of_getElem? (l := zStr) (i := 11) rfl)
    exact gz_throw K hex false rfl xd_NoSuchElementException_0 xd_NoSuchElementException_1 xd_NoSuchElementException_2 xd_NoSuchElementException_5 (by decide) zq3_205 zq1_21 hsa xl_171 dX9_target_20 dX9_target_23 dX9_target_24 dX9_target_26 dX9_target_29 (Nat.le_of_ble_eq_true rfl) (Nat.le_of_ble_eq_true rfl) (Nat.le_of_ble_eq_true rfl) (Nat.le_of_ble_eq_true rfl) ⟨rfl, hp⟩ (Nat.le_of_ble_eq_true rfl) (Nat.le_of_ble_eq_true rfl)
set_option maxRecDepth 100000 in
set_option maxHeartbeats 4000000 in
theorem c_X9_wordLength {l : Launch} {D : va_G} {ad : Nat → Nat} {ty : Nat → ClassId} (hl : l.stackTraces = false) (hj : ∀ i j, i < 68 → j < 68 → ad i = ad j → i = j) {σ : Dz} {x1 : Int32} {post : Int32 → Prop} {px : String → Prop} (hp : P_X9_wordLength σ x1 post px) : Mz l D ad ty yX9_wordLength cX9_wordLength 2 (some .int) r_X9_wordLength nI0 σ [.ref (ad 0), .int x1] (fun r τ => σ = τ ∧ post r) (fun E τ => σ = τ ∧ px E) := by
  refine mz_of (by decide) hl hj (Nat.le_of_ble_eq_true rfl) ?_
  intro p e s m args below meth c K hex hr
  unfold P_X9_wordLength at hp
  show Gz p l e r_X9_wordLength s m args below meth c D ad ty 2 0 0 (Ez below D ad ty nI0 (fun r τ => σ = τ ∧ post r) (fun E τ => σ = τ ∧ px E) args s 1 6) σ 0 [(0, .ref (ad 0)), (1, .int x1)] []
  refine gz_iload_n K dX9_wordLength_0 1 rfl ?_
  refine gz_callS K hex (c_X9_checkSlot K.2.2.2.2.2 K.2.2.1 hp) cf_X9_checkSlot zq3_104 dX9_wordLength_1 rfl rfl (Nat.le_of_ble_eq_true rfl) ⟨Nat.le_of_ble_eq_true rfl, Nat.le_of_ble_eq_true rfl⟩ ⟨Nat.le_of_ble_eq_true rfl, Nat.le_of_ble_eq_true rfl⟩ (Nat.le_of_ble_eq_true rfl) (Nat.le_of_ble_eq_true rfl) (fun _ _ h => ⟨h.1, h.2⟩) (fun _ τ hp => ?_)
  obtain ⟨rfl, hp⟩ := hp
  refine gz_norm (st' := []) (cells' := 1) (slots' := 6) rfl rfl rfl ?_
  refine gz_aload_n K dX9_wordLength_4 0 rfl ?_
  refine gz_get K (v := .ref (ad 17)) (by decide) (ce_0 _ _ _ _ _ _) rfl inz_X9 6 (by decide) zq1_208 rfl dX9_wordLength_5 ?_
  refine gz_iload_n K dX9_wordLength_8 1 rfl ?_
  refine gz_callV K hex (c_X4_word K.2.2.2.2.2 K.2.2.1 (by unfold isS; decide) hp) cf_X4_word zq3_191 (by decide) (ce_17 _ _ _ _ _ _) rfl dX9_wordLength_9 rfl rfl (Nat.le_of_ble_eq_true rfl) ⟨Nat.le_of_ble_eq_true rfl, Nat.le_of_ble_eq_true rfl⟩ ⟨Nat.le_of_ble_eq_true rfl, Nat.le_of_ble_eq_true rfl⟩ (Nat.le_of_ble_eq_true rfl) (Nat.le_of_ble_eq_true rfl) (fun _ _ h => h.elim) (fun r9 τ hp => ?_)
  obtain ⟨rfl, hp⟩ := hp
  obtain ⟨u9, hp⟩ := hp
  refine gz_norm (st' := [.ref (ad r9)]) (cells' := 1) (slots' := 6) rfl rfl rfl ?_
  refine gz_callV K hex (c_X6_length K.2.2.2.2.2 K.2.2.1 u9 hp) cf_X6_length zq3_196 (ceW u9).1 ((ceW u9).2 _ _ _ _ _ _) rfl dX9_wordLength_12 rfl rfl (Nat.le_of_ble_eq_true rfl) ⟨Nat.le_of_ble_eq_true rfl, Nat.le_of_ble_eq_true rfl⟩ ⟨Nat.le_of_ble_eq_true rfl, Nat.le_of_ble_eq_true rfl⟩ (Nat.le_of_ble_eq_true rfl) (Nat.le_of_ble_eq_true rfl) (fun _ _ h => h.elim) (fun r12 τ hp => ?_)
  obtain ⟨rfl, hp⟩ := hp
  refine gz_norm (st' := [.int r12]) (cells' := 1) (slots' := 6) rfl rfl rfl ?_
  exact gz_iret K hr ⟨rfl, hp⟩ dX9_wordLength_15 (Nat.le_of_ble_eq_true rfl) (Nat.le_of_ble_eq_true rfl)
set_option maxRecDepth 100000 in
set_option maxHeartbeats 4000000 in
theorem c_X9_letter {l : Launch} {D : va_G} {ad : Nat → Nat} {ty : Nat → ClassId} (hl : l.stackTraces = false) (hj : ∀ i j, i < 68 → j < 68 → ad i = ad j → i = j) {σ : Dz} {x1 : Int32} {x2 : Int32} {post : Int32 → Prop} {px : String → Prop} (hp : P_X9_letter σ x1 x2 post px) : Mz l D ad ty yX9_letter cX9_letter 4 (some .int) r_X9_letter nI0 σ [.ref (ad 0), .int x1, .int x2] (fun r τ => σ = τ ∧ post r) (fun E τ => σ = τ ∧ px E) := by
  refine mz_of (by decide) hl hj (Nat.le_of_ble_eq_true rfl) ?_
  intro p e s m args below meth c K hex hr
  unfold P_X9_letter at hp
  show Gz p l e r_X9_letter s m args below meth c D ad ty 4 0 0 (Ez below D ad ty nI0 (fun r τ => σ = τ ∧ post r) (fun E τ => σ = τ ∧ px E) args s 2 12) σ 0 [(0, .ref (ad 0)), (1, .int x1), (2, .int x2)] []
  refine gz_iload_n K dX9_letter_0 1 rfl ?_
  refine gz_callS K hex (c_X9_checkSlot K.2.2.2.2.2 K.2.2.1 hp) cf_X9_checkSlot zq3_104 dX9_letter_1 rfl rfl (Nat.le_of_ble_eq_true rfl) ⟨Nat.le_of_ble_eq_true rfl, Nat.le_of_ble_eq_true rfl⟩ ⟨Nat.le_of_ble_eq_true rfl, Nat.le_of_ble_eq_true rfl⟩ (Nat.le_of_ble_eq_true rfl) (Nat.le_of_ble_eq_true rfl) (fun _ _ h => ⟨h.1, h.2⟩) (fun _ τ hp => ?_)
  obtain ⟨rfl, hp⟩ := hp
  refine gz_norm (st' := []) (cells' := 1) (slots' := 6) rfl rfl rfl ?_
  refine gz_aload_n K dX9_letter_4 0 rfl ?_
  refine gz_get K (v := .ref (ad 17)) (by decide) (ce_0 _ _ _ _ _ _) rfl inz_X9 6 (by decide) zq1_208 rfl dX9_letter_5 ?_
  refine gz_iload_n K dX9_letter_8 1 rfl ?_
  refine gz_callV K hex (c_X4_word K.2.2.2.2.2 K.2.2.1 (by unfold isS; decide) hp) cf_X4_word zq3_191 (by decide) (ce_17 _ _ _ _ _ _) rfl dX9_letter_9 rfl rfl (Nat.le_of_ble_eq_true rfl) ⟨Nat.le_of_ble_eq_true rfl, Nat.le_of_ble_eq_true rfl⟩ ⟨Nat.le_of_ble_eq_true rfl, Nat.le_of_ble_eq_true rfl⟩ (Nat.le_of_ble_eq_true rfl) (Nat.le_of_ble_eq_true rfl) (fun _ _ h => h.elim) (fun r9 τ hp => ?_)
  obtain ⟨rfl, hp⟩ := hp
  obtain ⟨u9, hp⟩ := hp
  refine gz_norm (st' := [.ref (ad r9)]) (cells' := 1) (slots' := 6) rfl rfl rfl ?_
  refine gz_astore_n K [(3, .ref (ad r9)), (0, .ref (ad 0)), (1, .int x1), (2, .int x2)] dX9_letter_12 (by decide) rfl ?_
  refine gz_iload_n K dX9_letter_13 3 rfl ?_
  refine gz_if_lt K 25 dX9_letter_14 (by decide) (fun h => ?_) (fun h => ?_)
  · have hp := hp.1 h
    obtain ⟨sa, hsa⟩ := K.2.2.2.2.1.2.2.1 _ (List.mem_of_getElem? (l := zStr) (i := 12) rfl)
    exact gz_throw K hex false rfl xd_IndexOutOfBoundsException_0 xd_IndexOutOfBoundsException_1 xd_IndexOutOfBoundsException_2 xd_IndexOutOfBoundsException_5 (by decide) zq3_30 zq1_16 hsa xl_196 dX9_letter_25 dX9_letter_28 dX9_letter_29 dX9_letter_31 dX9_letter_34 (Nat.le_of_ble_eq_true rfl) (Nat.le_of_ble_eq_true rfl) (Nat.le_of_ble_eq_true rfl) (Nat.le_of_ble_eq_true rfl) ⟨rfl, hp⟩ (Nat.le_of_ble_eq_true rfl) (Nat.le_of_ble_eq_true rfl)
  · have hp := hp.2 h
    refine gz_iload_n K dX9_letter_17 3 rfl ?_
    refine gz_aload_n K dX9_letter_18 0 rfl ?_
    refine gz_callV K hex (c_X6_length K.2.2.2.2.2 K.2.2.1 u9 hp) cf_X6_length zq3_196 (ceW u9).1 ((ceW u9).2 _ _ _ _ _ _) rfl dX9_letter_19 rfl rfl (Nat.le_of_ble_eq_true rfl) ⟨Nat.le_of_ble_eq_true rfl, Nat.le_of_ble_eq_true rfl⟩ ⟨Nat.le_of_ble_eq_true rfl, Nat.le_of_ble_eq_true rfl⟩ (Nat.le_of_ble_eq_true rfl) (Nat.le_of_ble_eq_true rfl) (fun _ _ h => h.elim) (fun r19 τ hp => ?_)
    obtain ⟨rfl, hp⟩ := hp
    refine gz_norm (st' := [.int r19, .int x2]) (cells' := 1) (slots' := 6) rfl rfl rfl ?_
    refine gz_icmp_lt K 35 dX9_letter_22 (by decide) (fun h => ?_) (fun h => ?_)
    · have hp := hp.1 h
      refine gz_aload_n K dX9_letter_35 0 rfl ?_
      refine gz_iload_n K dX9_letter_36 3 rfl ?_
      refine gz_callV K hex (c_X6_at K.2.2.2.2.2 K.2.2.1 u9 hp) cf_X6_at zq4_12 (ceW u9).1 ((ceW u9).2 _ _ _ _ _ _) rfl dX9_letter_37 rfl rfl (Nat.le_of_ble_eq_true rfl) ⟨Nat.le_of_ble_eq_true rfl, Nat.le_of_ble_eq_true rfl⟩ ⟨Nat.le_of_ble_eq_true rfl, Nat.le_of_ble_eq_true rfl⟩ (Nat.le_of_ble_eq_true rfl) (Nat.le_of_ble_eq_true rfl) (fun _ _ h => h.elim) (fun r37 τ hp => ?_)
      obtain ⟨rfl, hp⟩ := hp
      refine gz_norm (st' := [.int r37]) (cells' := 1) (slots' := 6) rfl rfl rfl ?_
      exact gz_iret K hr ⟨rfl, hp⟩ dX9_letter_40 (Nat.le_of_ble_eq_true rfl) (Nat.le_of_ble_eq_true rfl)
    · have hp := hp.2 h
      obtain ⟨sa, hsa⟩ := K.2.2.2.2.1.2.2.1 _ (List.mem_of_getElem? (l := zStr) (i := 12) rfl)
      exact gz_throw K hex false rfl xd_IndexOutOfBoundsException_0 xd_IndexOutOfBoundsException_1 xd_IndexOutOfBoundsException_2 xd_IndexOutOfBoundsException_5 (by decide) zq3_30 zq1_16 hsa xl_196 dX9_letter_25 dX9_letter_28 dX9_letter_29 dX9_letter_31 dX9_letter_34 (Nat.le_of_ble_eq_true rfl) (Nat.le_of_ble_eq_true rfl) (Nat.le_of_ble_eq_true rfl) (Nat.le_of_ble_eq_true rfl) ⟨rfl, hp⟩ (Nat.le_of_ble_eq_true rfl) (Nat.le_of_ble_eq_true rfl)
set_option maxRecDepth 100000 in
set_option maxHeartbeats 4000000 in
theorem c_X9_invert {l : Launch} {D : va_G} {ad : Nat → Nat} {ty : Nat → ClassId} (hl : l.stackTraces = false) (hj : ∀ i j, i < 68 → j < 68 → ad i = ad j → i = j) {σ : Dz} {x1 : Int32} {x2 : Int32} {post : Int32 → Dz → Prop} {px : String → Dz → Prop} (hp : P_X9_invert σ x1 x2 post px) : Mz l D ad ty yX9_invert cX9_invert 3 (some .int) r_X9_invert nI0 σ [.ref (ad 0), .int x1, .int x2] post px := by
  refine mz_of (by decide) hl hj (Nat.le_of_ble_eq_true rfl) ?_
  intro p e s m args below meth c K hex hr
  unfold P_X9_invert at hp
  show Gz p l e r_X9_invert s m args below meth c D ad ty 3 0 0 (Ez below D ad ty nI0 post px args s 2 12) σ 0 [(0, .ref (ad 0)), (1, .int x1), (2, .int x2)] []
  refine gz_iload_n K dX9_invert_0 1 rfl ?_
  refine gz_callS K hex (c_X9_checkSlot K.2.2.2.2.2 K.2.2.1 hp) cf_X9_checkSlot zq3_104 dX9_invert_1 rfl rfl (Nat.le_of_ble_eq_true rfl) ⟨Nat.le_of_ble_eq_true rfl, Nat.le_of_ble_eq_true rfl⟩ ⟨Nat.le_of_ble_eq_true rfl, Nat.le_of_ble_eq_true rfl⟩ (Nat.le_of_ble_eq_true rfl) (Nat.le_of_ble_eq_true rfl) (fun _ _ h => h.1 ▸ h.2) (fun _ τ hp => ?_)
  obtain ⟨rfl, hp⟩ := hp
  refine gz_norm (st' := []) (cells' := 1) (slots' := 6) rfl rfl rfl ?_
  refine gz_iload_n K dX9_invert_4 2 rfl ?_
  refine gz_callS K hex (c_X9_checkSlot K.2.2.2.2.2 K.2.2.1 hp) cf_X9_checkSlot zq3_104 dX9_invert_5 rfl rfl (Nat.le_of_ble_eq_true rfl) ⟨Nat.le_of_ble_eq_true rfl, Nat.le_of_ble_eq_true rfl⟩ ⟨Nat.le_of_ble_eq_true rfl, Nat.le_of_ble_eq_true rfl⟩ (Nat.le_of_ble_eq_true rfl) (Nat.le_of_ble_eq_true rfl) (fun _ _ h => h.1 ▸ h.2) (fun _ τ hp => ?_)
  obtain ⟨rfl, hp⟩ := hp
  refine gz_norm (st' := []) (cells' := 2) (slots' := 12) rfl rfl rfl ?_
  refine gz_aload_n K dX9_invert_8 0 rfl ?_
  refine gz_get K (v := .ref (ad 39)) (by decide) (ce_0 _ _ _ _ _ _) rfl inz_X9 8 (by decide) zq1_210 rfl dX9_invert_9 ?_
  refine gz_callV K hex (c_X6_clear K.2.2.2.2.2 K.2.2.1 (by unfold isW; decide) hp) cf_X6_clear zq4_20 (by decide) (ce_39 _ _ _ _ _ _) rfl dX9_invert_12 rfl rfl (Nat.le_of_ble_eq_true rfl) ⟨Nat.le_of_ble_eq_true rfl, Nat.le_of_ble_eq_true rfl⟩ ⟨Nat.le_of_ble_eq_true rfl, Nat.le_of_ble_eq_true rfl⟩ (Nat.le_of_ble_eq_true rfl) (Nat.le_of_ble_eq_true rfl) (fun _ _ h => h.elim) (fun _ τ12 hp => ?_)
  refine gz_norm (st' := []) (cells' := 2) (slots' := 12) rfl rfl rfl ?_
  refine gz_aload_n K dX9_invert_15 0 rfl ?_
  refine gz_get K (v := .ref (ad 39)) (by decide) (ce_0 _ _ _ _ _ _) rfl inz_X9 8 (by decide) zq1_210 rfl dX9_invert_16 ?_
  refine gz_aload_n K dX9_invert_19 0 rfl ?_
  refine gz_get K (v := .ref (ad 17)) (by decide) (ce_0 _ _ _ _ _ _) rfl inz_X9 6 (by decide) zq1_208 rfl dX9_invert_20 ?_
  refine gz_iload_n K dX9_invert_23 2 rfl ?_
  refine gz_callV K hex (c_X4_word K.2.2.2.2.2 K.2.2.1 (by unfold isS; decide) hp) cf_X4_word zq3_191 (by decide) (ce_17 _ _ _ _ _ _) rfl dX9_invert_24 rfl rfl (Nat.le_of_ble_eq_true rfl) ⟨Nat.le_of_ble_eq_true rfl, Nat.le_of_ble_eq_true rfl⟩ ⟨Nat.le_of_ble_eq_true rfl, Nat.le_of_ble_eq_true rfl⟩ (Nat.le_of_ble_eq_true rfl) (Nat.le_of_ble_eq_true rfl) (fun _ _ h => h.elim) (fun r24 τ hp => ?_)
  obtain ⟨rfl, hp⟩ := hp
  obtain ⟨u24, hp⟩ := hp
  refine gz_norm (st' := [.ref (ad r24), .ref (ad 39)]) (cells' := 2) (slots' := 12) rfl rfl rfl ?_
  refine gz_callV K hex (c_X6_addInverseOf K.2.2.2.2.2 K.2.2.1 (by unfold isW; decide) u24 hp) cf_X6_addInverseOf zq4_21 (by decide) (ce_39 _ _ _ _ _ _) rfl dX9_invert_27 rfl rfl (Nat.le_of_ble_eq_true rfl) ⟨Nat.le_of_ble_eq_true rfl, Nat.le_of_ble_eq_true rfl⟩ ⟨Nat.le_of_ble_eq_true rfl, Nat.le_of_ble_eq_true rfl⟩ (Nat.le_of_ble_eq_true rfl) (Nat.le_of_ble_eq_true rfl) (fun _ _ h => h.elim) (fun r27 τ27 hp => ?_)
  refine gz_norm (st' := [.int r27]) (cells' := 2) (slots' := 12) rfl rfl rfl ?_
  refine gz_pop K dX9_invert_30 rfl ?_
  refine gz_aload_n K dX9_invert_31 0 rfl ?_
  refine gz_iload_n K dX9_invert_32 1 rfl ?_
  refine gz_callV K hex (c_X9_keepDraft K.2.2.2.2.2 K.2.2.1 hp) cf_X9_keepDraft zq3_187 (by decide) (ce_0 _ _ _ _ _ _) rfl dX9_invert_33 rfl rfl (Nat.le_of_ble_eq_true rfl) ⟨Nat.le_of_ble_eq_true rfl, Nat.le_of_ble_eq_true rfl⟩ ⟨Nat.le_of_ble_eq_true rfl, Nat.le_of_ble_eq_true rfl⟩ (Nat.le_of_ble_eq_true rfl) (Nat.le_of_ble_eq_true rfl) (fun _ _ h => h.elim) (fun r33 τ33 hp => ?_)
  refine gz_norm (st' := [.int r33]) (cells' := 2) (slots' := 12) rfl rfl rfl ?_
  exact gz_iret K hr hp dX9_invert_36 (Nat.le_of_ble_eq_true rfl) (Nat.le_of_ble_eq_true rfl)
set_option maxRecDepth 100000 in
set_option maxHeartbeats 4000000 in
theorem c_X9_conjugate {l : Launch} {D : va_G} {ad : Nat → Nat} {ty : Nat → ClassId} (hl : l.stackTraces = false) (hj : ∀ i j, i < 68 → j < 68 → ad i = ad j → i = j) {σ : Dz} {x1 : Int32} {x2 : Int32} {x3 : Int32} {post : Int32 → Dz → Prop} {px : String → Dz → Prop} (hp : P_X9_conjugate σ x1 x2 x3 post px) : Mz l D ad ty yX9_conjugate cX9_conjugate 5 (some .int) r_X9_conjugate nI0 σ [.ref (ad 0), .int x1, .int x2, .int x3] post px := by
  refine mz_of (by decide) hl hj (Nat.le_of_ble_eq_true rfl) ?_
  intro p e s m args below meth c K hex hr
  unfold P_X9_conjugate at hp
  have bb_78 : ∀ (σ : Dz) (y1 : Int32) (z0 : Int32) , B_X9_conjugate_78 post px  σ y1 z0 → Gz p l e r_X9_conjugate s m args below meth c D ad ty 5 3 18 (Ez below D ad ty nI0 post px args s 4 24) σ 78 [(0, .ref (ad 0)), (1, .int y1)] [.int z0] := by
    intro σ y1 z0 hp
    unfold B_X9_conjugate_78 at hp
    refine gz_istore K [(4, .int z0), (0, .ref (ad 0)), (1, .int y1)] dX9_conjugate_78 (by decide) rfl ?_
    refine gz_iload K dX9_conjugate_80 0 rfl ?_
    refine gz_if_ne K 95 dX9_conjugate_82 (by decide) (fun h => ?_) (fun h => ?_)
    · have hp := hp.1 h
      refine gz_aload_n K dX9_conjugate_95 1 rfl ?_
      refine gz_iload_n K dX9_conjugate_96 2 rfl ?_
      refine gz_callV K hex (c_X9_keepDraft K.2.2.2.2.2 K.2.2.1 hp) cf_X9_keepDraft zq3_187 (by decide) (ce_0 _ _ _ _ _ _) rfl dX9_conjugate_97 rfl rfl (Nat.le_of_ble_eq_true rfl) ⟨Nat.le_of_ble_eq_true rfl, Nat.le_of_ble_eq_true rfl⟩ ⟨Nat.le_of_ble_eq_true rfl, Nat.le_of_ble_eq_true rfl⟩ (Nat.le_of_ble_eq_true rfl) (Nat.le_of_ble_eq_true rfl) (fun _ _ h => h.elim) (fun r97 τ97 hp => ?_)
      refine gz_norm (st' := [.int r97]) (cells' := 3) (slots' := 18) rfl rfl rfl ?_
      exact gz_iret K hr hp dX9_conjugate_100 (Nat.le_of_ble_eq_true rfl) (Nat.le_of_ble_eq_true rfl)
    · have hp := hp.2 h
      obtain ⟨sa, hsa⟩ := K.2.2.2.2.1.2.2.1 _ (List.mem_of_getElem? (l := zStr) (i := 13) rfl)
      exact gz_throw K hex false rfl xd_ArithmeticException_0 xd_ArithmeticException_1 xd_ArithmeticException_2 xd_ArithmeticException_5 (by decide) zq3_184 zq1_20 hsa xl_162 dX9_conjugate_85 dX9_conjugate_88 dX9_conjugate_89 dX9_conjugate_91 dX9_conjugate_94 (Nat.le_of_ble_eq_true rfl) (Nat.le_of_ble_eq_true rfl) (Nat.le_of_ble_eq_true rfl) (Nat.le_of_ble_eq_true rfl) hp (Nat.le_of_ble_eq_true rfl) (Nat.le_of_ble_eq_true rfl)
  have bb_77 : ∀ (σ : Dz) (y1 : Int32) , B_X9_conjugate_77 post px  σ y1 → Gz p l e r_X9_conjugate s m args below meth c D ad ty 5 3 18 (Ez below D ad ty nI0 post px args s 4 24) σ 77 [(0, .ref (ad 0)), (1, .int y1)] [] := by
    intro σ y1 hp
    unfold B_X9_conjugate_77 at hp
    refine gz_iconst K (v := (0 : Int32)) dX9_conjugate_77 (by decide) ?_
    exact bb_78 σ y1 (0 : Int32)  hp
  show Gz p l e r_X9_conjugate s m args below meth c D ad ty 5 0 0 (Ez below D ad ty nI0 post px args s 4 24) σ 0 [(0, .ref (ad 0)), (1, .int x1), (2, .int x2), (3, .int x3)] []
  refine gz_iload_n K dX9_conjugate_0 1 rfl ?_
  refine gz_callS K hex (c_X9_checkSlot K.2.2.2.2.2 K.2.2.1 hp) cf_X9_checkSlot zq3_104 dX9_conjugate_1 rfl rfl (Nat.le_of_ble_eq_true rfl) ⟨Nat.le_of_ble_eq_true rfl, Nat.le_of_ble_eq_true rfl⟩ ⟨Nat.le_of_ble_eq_true rfl, Nat.le_of_ble_eq_true rfl⟩ (Nat.le_of_ble_eq_true rfl) (Nat.le_of_ble_eq_true rfl) (fun _ _ h => h.1 ▸ h.2) (fun _ τ hp => ?_)
  obtain ⟨rfl, hp⟩ := hp
  refine gz_norm (st' := []) (cells' := 1) (slots' := 6) rfl rfl rfl ?_
  refine gz_iload_n K dX9_conjugate_4 2 rfl ?_
  refine gz_callS K hex (c_X9_checkSlot K.2.2.2.2.2 K.2.2.1 hp) cf_X9_checkSlot zq3_104 dX9_conjugate_5 rfl rfl (Nat.le_of_ble_eq_true rfl) ⟨Nat.le_of_ble_eq_true rfl, Nat.le_of_ble_eq_true rfl⟩ ⟨Nat.le_of_ble_eq_true rfl, Nat.le_of_ble_eq_true rfl⟩ (Nat.le_of_ble_eq_true rfl) (Nat.le_of_ble_eq_true rfl) (fun _ _ h => h.1 ▸ h.2) (fun _ τ hp => ?_)
  obtain ⟨rfl, hp⟩ := hp
  refine gz_norm (st' := []) (cells' := 2) (slots' := 12) rfl rfl rfl ?_
  refine gz_iload_n K dX9_conjugate_8 3 rfl ?_
  refine gz_callS K hex (c_X9_checkSlot K.2.2.2.2.2 K.2.2.1 hp) cf_X9_checkSlot zq3_104 dX9_conjugate_9 rfl rfl (Nat.le_of_ble_eq_true rfl) ⟨Nat.le_of_ble_eq_true rfl, Nat.le_of_ble_eq_true rfl⟩ ⟨Nat.le_of_ble_eq_true rfl, Nat.le_of_ble_eq_true rfl⟩ (Nat.le_of_ble_eq_true rfl) (Nat.le_of_ble_eq_true rfl) (fun _ _ h => h.1 ▸ h.2) (fun _ τ hp => ?_)
  obtain ⟨rfl, hp⟩ := hp
  refine gz_norm (st' := []) (cells' := 3) (slots' := 18) rfl rfl rfl ?_
  refine gz_aload_n K dX9_conjugate_12 0 rfl ?_
  refine gz_get K (v := .ref (ad 39)) (by decide) (ce_0 _ _ _ _ _ _) rfl inz_X9 8 (by decide) zq1_210 rfl dX9_conjugate_13 ?_
  refine gz_callV K hex (c_X6_clear K.2.2.2.2.2 K.2.2.1 (by unfold isW; decide) hp) cf_X6_clear zq4_20 (by decide) (ce_39 _ _ _ _ _ _) rfl dX9_conjugate_16 rfl rfl (Nat.le_of_ble_eq_true rfl) ⟨Nat.le_of_ble_eq_true rfl, Nat.le_of_ble_eq_true rfl⟩ ⟨Nat.le_of_ble_eq_true rfl, Nat.le_of_ble_eq_true rfl⟩ (Nat.le_of_ble_eq_true rfl) (Nat.le_of_ble_eq_true rfl) (fun _ _ h => h.elim) (fun _ τ16 hp => ?_)
  refine gz_norm (st' := []) (cells' := 3) (slots' := 18) rfl rfl rfl ?_
  refine gz_aload_n K dX9_conjugate_19 0 rfl ?_
  refine gz_get K (v := .ref (ad 39)) (by decide) (ce_0 _ _ _ _ _ _) rfl inz_X9 8 (by decide) zq1_210 rfl dX9_conjugate_20 ?_
  refine gz_aload_n K dX9_conjugate_23 0 rfl ?_
  refine gz_get K (v := .ref (ad 17)) (by decide) (ce_0 _ _ _ _ _ _) rfl inz_X9 6 (by decide) zq1_208 rfl dX9_conjugate_24 ?_
  refine gz_iload_n K dX9_conjugate_27 3 rfl ?_
  refine gz_callV K hex (c_X4_word K.2.2.2.2.2 K.2.2.1 (by unfold isS; decide) hp) cf_X4_word zq3_191 (by decide) (ce_17 _ _ _ _ _ _) rfl dX9_conjugate_28 rfl rfl (Nat.le_of_ble_eq_true rfl) ⟨Nat.le_of_ble_eq_true rfl, Nat.le_of_ble_eq_true rfl⟩ ⟨Nat.le_of_ble_eq_true rfl, Nat.le_of_ble_eq_true rfl⟩ (Nat.le_of_ble_eq_true rfl) (Nat.le_of_ble_eq_true rfl) (fun _ _ h => h.elim) (fun r28 τ hp => ?_)
  obtain ⟨rfl, hp⟩ := hp
  obtain ⟨u28, hp⟩ := hp
  refine gz_norm (st' := [.ref (ad r28), .ref (ad 39)]) (cells' := 3) (slots' := 18) rfl rfl rfl ?_
  refine gz_callV K hex (c_X6_addInverseOf K.2.2.2.2.2 K.2.2.1 (by unfold isW; decide) u28 hp) cf_X6_addInverseOf zq4_21 (by decide) (ce_39 _ _ _ _ _ _) rfl dX9_conjugate_31 rfl rfl (Nat.le_of_ble_eq_true rfl) ⟨Nat.le_of_ble_eq_true rfl, Nat.le_of_ble_eq_true rfl⟩ ⟨Nat.le_of_ble_eq_true rfl, Nat.le_of_ble_eq_true rfl⟩ (Nat.le_of_ble_eq_true rfl) (Nat.le_of_ble_eq_true rfl) (fun _ _ h => h.elim) (fun r31 τ31 hp => ?_)
  refine gz_norm (st' := [.int r31]) (cells' := 3) (slots' := 18) rfl rfl rfl ?_
  refine gz_if_eq K 77 dX9_conjugate_34 (by decide) (fun h => ?_) (fun h => ?_)
  · have hp := hp.1 h
    refine gz_sub [0, 1] rfl ?_
    exact bb_77 τ31 x1  hp
  · have hp := hp.2 h
    refine gz_aload_n K dX9_conjugate_37 0 rfl ?_
    refine gz_get K (v := .ref (ad 39)) (by decide) (ce_0 _ _ _ _ _ _) rfl inz_X9 8 (by decide) zq1_210 rfl dX9_conjugate_38 ?_
    refine gz_aload_n K dX9_conjugate_41 0 rfl ?_
    refine gz_get K (v := .ref (ad 17)) (by decide) (ce_0 _ _ _ _ _ _) rfl inz_X9 6 (by decide) zq1_208 rfl dX9_conjugate_42 ?_
    refine gz_iload_n K dX9_conjugate_45 2 rfl ?_
    refine gz_callV K hex (c_X4_word K.2.2.2.2.2 K.2.2.1 (by unfold isS; decide) hp) cf_X4_word zq3_191 (by decide) (ce_17 _ _ _ _ _ _) rfl dX9_conjugate_46 rfl rfl (Nat.le_of_ble_eq_true rfl) ⟨Nat.le_of_ble_eq_true rfl, Nat.le_of_ble_eq_true rfl⟩ ⟨Nat.le_of_ble_eq_true rfl, Nat.le_of_ble_eq_true rfl⟩ (Nat.le_of_ble_eq_true rfl) (Nat.le_of_ble_eq_true rfl) (fun _ _ h => h.elim) (fun r46 τ hp => ?_)
    obtain ⟨rfl, hp⟩ := hp
    obtain ⟨u46, hp⟩ := hp
    refine gz_norm (st' := [.ref (ad r46), .ref (ad 39)]) (cells' := 3) (slots' := 18) rfl rfl rfl ?_
    refine gz_callV K hex (c_X6_addAll K.2.2.2.2.2 K.2.2.1 (by unfold isW; decide) u46 hp) cf_X6_addAll zq4_32 (by decide) (ce_39 _ _ _ _ _ _) rfl dX9_conjugate_49 rfl rfl (Nat.le_of_ble_eq_true rfl) ⟨Nat.le_of_ble_eq_true rfl, Nat.le_of_ble_eq_true rfl⟩ ⟨Nat.le_of_ble_eq_true rfl, Nat.le_of_ble_eq_true rfl⟩ (Nat.le_of_ble_eq_true rfl) (Nat.le_of_ble_eq_true rfl) (fun _ _ h => h.elim) (fun r49 τ49 hp => ?_)
    refine gz_norm (st' := [.int r49]) (cells' := 3) (slots' := 18) rfl rfl rfl ?_
    refine gz_if_eq K 77 dX9_conjugate_52 (by decide) (fun h => ?_) (fun h => ?_)
    · have hp := hp.1 h
      refine gz_sub [0, 1] rfl ?_
      exact bb_77 τ49 x1  hp
    · have hp := hp.2 h
      refine gz_aload_n K dX9_conjugate_55 0 rfl ?_
      refine gz_get K (v := .ref (ad 39)) (by decide) (ce_0 _ _ _ _ _ _) rfl inz_X9 8 (by decide) zq1_210 rfl dX9_conjugate_56 ?_
      refine gz_aload_n K dX9_conjugate_59 0 rfl ?_
      refine gz_get K (v := .ref (ad 17)) (by decide) (ce_0 _ _ _ _ _ _) rfl inz_X9 6 (by decide) zq1_208 rfl dX9_conjugate_60 ?_
      refine gz_iload_n K dX9_conjugate_63 3 rfl ?_
      refine gz_callV K hex (c_X4_word K.2.2.2.2.2 K.2.2.1 (by unfold isS; decide) hp) cf_X4_word zq3_191 (by decide) (ce_17 _ _ _ _ _ _) rfl dX9_conjugate_64 rfl rfl (Nat.le_of_ble_eq_true rfl) ⟨Nat.le_of_ble_eq_true rfl, Nat.le_of_ble_eq_true rfl⟩ ⟨Nat.le_of_ble_eq_true rfl, Nat.le_of_ble_eq_true rfl⟩ (Nat.le_of_ble_eq_true rfl) (Nat.le_of_ble_eq_true rfl) (fun _ _ h => h.elim) (fun r64 τ hp => ?_)
      obtain ⟨rfl, hp⟩ := hp
      obtain ⟨u64, hp⟩ := hp
      refine gz_norm (st' := [.ref (ad r64), .ref (ad 39)]) (cells' := 3) (slots' := 18) rfl rfl rfl ?_
      refine gz_callV K hex (c_X6_addAll K.2.2.2.2.2 K.2.2.1 (by unfold isW; decide) u64 hp) cf_X6_addAll zq4_32 (by decide) (ce_39 _ _ _ _ _ _) rfl dX9_conjugate_67 rfl rfl (Nat.le_of_ble_eq_true rfl) ⟨Nat.le_of_ble_eq_true rfl, Nat.le_of_ble_eq_true rfl⟩ ⟨Nat.le_of_ble_eq_true rfl, Nat.le_of_ble_eq_true rfl⟩ (Nat.le_of_ble_eq_true rfl) (Nat.le_of_ble_eq_true rfl) (fun _ _ h => h.elim) (fun r67 τ67 hp => ?_)
      refine gz_norm (st' := [.int r67]) (cells' := 3) (slots' := 18) rfl rfl rfl ?_
      refine gz_if_eq K 77 dX9_conjugate_70 (by decide) (fun h => ?_) (fun h => ?_)
      · have hp := hp.1 h
        refine gz_sub [0, 1] rfl ?_
        exact bb_77 τ67 x1  hp
      · have hp := hp.2 h
        refine gz_iconst K (v := (1 : Int32)) dX9_conjugate_73 (by decide) ?_
        refine gz_goto K 78 dX9_conjugate_74 (by decide) ?_
        refine gz_sub [0, 1] rfl ?_
        exact bb_78 τ67 x1 (1 : Int32)  hp
set_option maxRecDepth 100000 in
set_option maxHeartbeats 4000000 in
theorem c_X9_commutator {l : Launch} {D : va_G} {ad : Nat → Nat} {ty : Nat → ClassId} (hl : l.stackTraces = false) (hj : ∀ i j, i < 68 → j < 68 → ad i = ad j → i = j) {σ : Dz} {x1 : Int32} {x2 : Int32} {x3 : Int32} {post : Int32 → Dz → Prop} {px : String → Dz → Prop} (hp : P_X9_commutator σ x1 x2 x3 post px) : Mz l D ad ty yX9_commutator cX9_commutator 5 (some .int) r_X9_commutator nI0 σ [.ref (ad 0), .int x1, .int x2, .int x3] post px := by
  refine mz_of (by decide) hl hj (Nat.le_of_ble_eq_true rfl) ?_
  intro p e s m args below meth c K hex hr
  unfold P_X9_commutator at hp
  have bb_96 : ∀ (σ : Dz) (y1 : Int32) (z0 : Int32) , B_X9_commutator_96 post px  σ y1 z0 → Gz p l e r_X9_commutator s m args below meth c D ad ty 5 3 18 (Ez below D ad ty nI0 post px args s 4 24) σ 96 [(0, .ref (ad 0)), (1, .int y1)] [.int z0] := by
    intro σ y1 z0 hp
    unfold B_X9_commutator_96 at hp
    refine gz_istore K [(4, .int z0), (0, .ref (ad 0)), (1, .int y1)] dX9_commutator_96 (by decide) rfl ?_
    refine gz_iload K dX9_commutator_98 0 rfl ?_
    refine gz_if_ne K 113 dX9_commutator_100 (by decide) (fun h => ?_) (fun h => ?_)
    · have hp := hp.1 h
      refine gz_aload_n K dX9_commutator_113 1 rfl ?_
      refine gz_iload_n K dX9_commutator_114 2 rfl ?_
      refine gz_callV K hex (c_X9_keepDraft K.2.2.2.2.2 K.2.2.1 hp) cf_X9_keepDraft zq3_187 (by decide) (ce_0 _ _ _ _ _ _) rfl dX9_commutator_115 rfl rfl (Nat.le_of_ble_eq_true rfl) ⟨Nat.le_of_ble_eq_true rfl, Nat.le_of_ble_eq_true rfl⟩ ⟨Nat.le_of_ble_eq_true rfl, Nat.le_of_ble_eq_true rfl⟩ (Nat.le_of_ble_eq_true rfl) (Nat.le_of_ble_eq_true rfl) (fun _ _ h => h.elim) (fun r115 τ115 hp => ?_)
      refine gz_norm (st' := [.int r115]) (cells' := 3) (slots' := 18) rfl rfl rfl ?_
      exact gz_iret K hr hp dX9_commutator_118 (Nat.le_of_ble_eq_true rfl) (Nat.le_of_ble_eq_true rfl)
    · have hp := hp.2 h
      obtain ⟨sa, hsa⟩ := K.2.2.2.2.1.2.2.1 _ (List.mem_of_getElem? (l := zStr) (i := 14) rfl)
      exact gz_throw K hex false rfl xd_ArithmeticException_0 xd_ArithmeticException_1 xd_ArithmeticException_2 xd_ArithmeticException_5 (by decide) zq3_184 zq1_20 hsa xl_162 dX9_commutator_103 dX9_commutator_106 dX9_commutator_107 dX9_commutator_109 dX9_commutator_112 (Nat.le_of_ble_eq_true rfl) (Nat.le_of_ble_eq_true rfl) (Nat.le_of_ble_eq_true rfl) (Nat.le_of_ble_eq_true rfl) hp (Nat.le_of_ble_eq_true rfl) (Nat.le_of_ble_eq_true rfl)
  have bb_95 : ∀ (σ : Dz) (y1 : Int32) , B_X9_commutator_95 post px  σ y1 → Gz p l e r_X9_commutator s m args below meth c D ad ty 5 3 18 (Ez below D ad ty nI0 post px args s 4 24) σ 95 [(0, .ref (ad 0)), (1, .int y1)] [] := by
    intro σ y1 hp
    unfold B_X9_commutator_95 at hp
    refine gz_iconst K (v := (0 : Int32)) dX9_commutator_95 (by decide) ?_
    exact bb_96 σ y1 (0 : Int32)  hp
  show Gz p l e r_X9_commutator s m args below meth c D ad ty 5 0 0 (Ez below D ad ty nI0 post px args s 4 24) σ 0 [(0, .ref (ad 0)), (1, .int x1), (2, .int x2), (3, .int x3)] []
  refine gz_iload_n K dX9_commutator_0 1 rfl ?_
  refine gz_callS K hex (c_X9_checkSlot K.2.2.2.2.2 K.2.2.1 hp) cf_X9_checkSlot zq3_104 dX9_commutator_1 rfl rfl (Nat.le_of_ble_eq_true rfl) ⟨Nat.le_of_ble_eq_true rfl, Nat.le_of_ble_eq_true rfl⟩ ⟨Nat.le_of_ble_eq_true rfl, Nat.le_of_ble_eq_true rfl⟩ (Nat.le_of_ble_eq_true rfl) (Nat.le_of_ble_eq_true rfl) (fun _ _ h => h.1 ▸ h.2) (fun _ τ hp => ?_)
  obtain ⟨rfl, hp⟩ := hp
  refine gz_norm (st' := []) (cells' := 1) (slots' := 6) rfl rfl rfl ?_
  refine gz_iload_n K dX9_commutator_4 2 rfl ?_
  refine gz_callS K hex (c_X9_checkSlot K.2.2.2.2.2 K.2.2.1 hp) cf_X9_checkSlot zq3_104 dX9_commutator_5 rfl rfl (Nat.le_of_ble_eq_true rfl) ⟨Nat.le_of_ble_eq_true rfl, Nat.le_of_ble_eq_true rfl⟩ ⟨Nat.le_of_ble_eq_true rfl, Nat.le_of_ble_eq_true rfl⟩ (Nat.le_of_ble_eq_true rfl) (Nat.le_of_ble_eq_true rfl) (fun _ _ h => h.1 ▸ h.2) (fun _ τ hp => ?_)
  obtain ⟨rfl, hp⟩ := hp
  refine gz_norm (st' := []) (cells' := 2) (slots' := 12) rfl rfl rfl ?_
  refine gz_iload_n K dX9_commutator_8 3 rfl ?_
  refine gz_callS K hex (c_X9_checkSlot K.2.2.2.2.2 K.2.2.1 hp) cf_X9_checkSlot zq3_104 dX9_commutator_9 rfl rfl (Nat.le_of_ble_eq_true rfl) ⟨Nat.le_of_ble_eq_true rfl, Nat.le_of_ble_eq_true rfl⟩ ⟨Nat.le_of_ble_eq_true rfl, Nat.le_of_ble_eq_true rfl⟩ (Nat.le_of_ble_eq_true rfl) (Nat.le_of_ble_eq_true rfl) (fun _ _ h => h.1 ▸ h.2) (fun _ τ hp => ?_)
  obtain ⟨rfl, hp⟩ := hp
  refine gz_norm (st' := []) (cells' := 3) (slots' := 18) rfl rfl rfl ?_
  refine gz_aload_n K dX9_commutator_12 0 rfl ?_
  refine gz_get K (v := .ref (ad 39)) (by decide) (ce_0 _ _ _ _ _ _) rfl inz_X9 8 (by decide) zq1_210 rfl dX9_commutator_13 ?_
  refine gz_callV K hex (c_X6_clear K.2.2.2.2.2 K.2.2.1 (by unfold isW; decide) hp) cf_X6_clear zq4_20 (by decide) (ce_39 _ _ _ _ _ _) rfl dX9_commutator_16 rfl rfl (Nat.le_of_ble_eq_true rfl) ⟨Nat.le_of_ble_eq_true rfl, Nat.le_of_ble_eq_true rfl⟩ ⟨Nat.le_of_ble_eq_true rfl, Nat.le_of_ble_eq_true rfl⟩ (Nat.le_of_ble_eq_true rfl) (Nat.le_of_ble_eq_true rfl) (fun _ _ h => h.elim) (fun _ τ16 hp => ?_)
  refine gz_norm (st' := []) (cells' := 3) (slots' := 18) rfl rfl rfl ?_
  refine gz_aload_n K dX9_commutator_19 0 rfl ?_
  refine gz_get K (v := .ref (ad 39)) (by decide) (ce_0 _ _ _ _ _ _) rfl inz_X9 8 (by decide) zq1_210 rfl dX9_commutator_20 ?_
  refine gz_aload_n K dX9_commutator_23 0 rfl ?_
  refine gz_get K (v := .ref (ad 17)) (by decide) (ce_0 _ _ _ _ _ _) rfl inz_X9 6 (by decide) zq1_208 rfl dX9_commutator_24 ?_
  refine gz_iload_n K dX9_commutator_27 2 rfl ?_
  refine gz_callV K hex (c_X4_word K.2.2.2.2.2 K.2.2.1 (by unfold isS; decide) hp) cf_X4_word zq3_191 (by decide) (ce_17 _ _ _ _ _ _) rfl dX9_commutator_28 rfl rfl (Nat.le_of_ble_eq_true rfl) ⟨Nat.le_of_ble_eq_true rfl, Nat.le_of_ble_eq_true rfl⟩ ⟨Nat.le_of_ble_eq_true rfl, Nat.le_of_ble_eq_true rfl⟩ (Nat.le_of_ble_eq_true rfl) (Nat.le_of_ble_eq_true rfl) (fun _ _ h => h.elim) (fun r28 τ hp => ?_)
  obtain ⟨rfl, hp⟩ := hp
  obtain ⟨u28, hp⟩ := hp
  refine gz_norm (st' := [.ref (ad r28), .ref (ad 39)]) (cells' := 3) (slots' := 18) rfl rfl rfl ?_
  refine gz_callV K hex (c_X6_addAll K.2.2.2.2.2 K.2.2.1 (by unfold isW; decide) u28 hp) cf_X6_addAll zq4_32 (by decide) (ce_39 _ _ _ _ _ _) rfl dX9_commutator_31 rfl rfl (Nat.le_of_ble_eq_true rfl) ⟨Nat.le_of_ble_eq_true rfl, Nat.le_of_ble_eq_true rfl⟩ ⟨Nat.le_of_ble_eq_true rfl, Nat.le_of_ble_eq_true rfl⟩ (Nat.le_of_ble_eq_true rfl) (Nat.le_of_ble_eq_true rfl) (fun _ _ h => h.elim) (fun r31 τ31 hp => ?_)
  refine gz_norm (st' := [.int r31]) (cells' := 3) (slots' := 18) rfl rfl rfl ?_
  refine gz_if_eq K 95 dX9_commutator_34 (by decide) (fun h => ?_) (fun h => ?_)
  · have hp := hp.1 h
    refine gz_sub [0, 1] rfl ?_
    exact bb_95 τ31 x1  hp
  · have hp := hp.2 h
    refine gz_aload_n K dX9_commutator_37 0 rfl ?_
    refine gz_get K (v := .ref (ad 39)) (by decide) (ce_0 _ _ _ _ _ _) rfl inz_X9 8 (by decide) zq1_210 rfl dX9_commutator_38 ?_
    refine gz_aload_n K dX9_commutator_41 0 rfl ?_
    refine gz_get K (v := .ref (ad 17)) (by decide) (ce_0 _ _ _ _ _ _) rfl inz_X9 6 (by decide) zq1_208 rfl dX9_commutator_42 ?_
    refine gz_iload_n K dX9_commutator_45 3 rfl ?_
    refine gz_callV K hex (c_X4_word K.2.2.2.2.2 K.2.2.1 (by unfold isS; decide) hp) cf_X4_word zq3_191 (by decide) (ce_17 _ _ _ _ _ _) rfl dX9_commutator_46 rfl rfl (Nat.le_of_ble_eq_true rfl) ⟨Nat.le_of_ble_eq_true rfl, Nat.le_of_ble_eq_true rfl⟩ ⟨Nat.le_of_ble_eq_true rfl, Nat.le_of_ble_eq_true rfl⟩ (Nat.le_of_ble_eq_true rfl) (Nat.le_of_ble_eq_true rfl) (fun _ _ h => h.elim) (fun r46 τ hp => ?_)
    obtain ⟨rfl, hp⟩ := hp
    obtain ⟨u46, hp⟩ := hp
    refine gz_norm (st' := [.ref (ad r46), .ref (ad 39)]) (cells' := 3) (slots' := 18) rfl rfl rfl ?_
    refine gz_callV K hex (c_X6_addAll K.2.2.2.2.2 K.2.2.1 (by unfold isW; decide) u46 hp) cf_X6_addAll zq4_32 (by decide) (ce_39 _ _ _ _ _ _) rfl dX9_commutator_49 rfl rfl (Nat.le_of_ble_eq_true rfl) ⟨Nat.le_of_ble_eq_true rfl, Nat.le_of_ble_eq_true rfl⟩ ⟨Nat.le_of_ble_eq_true rfl, Nat.le_of_ble_eq_true rfl⟩ (Nat.le_of_ble_eq_true rfl) (Nat.le_of_ble_eq_true rfl) (fun _ _ h => h.elim) (fun r49 τ49 hp => ?_)
    refine gz_norm (st' := [.int r49]) (cells' := 3) (slots' := 18) rfl rfl rfl ?_
    refine gz_if_eq K 95 dX9_commutator_52 (by decide) (fun h => ?_) (fun h => ?_)
    · have hp := hp.1 h
      refine gz_sub [0, 1] rfl ?_
      exact bb_95 τ49 x1  hp
    · have hp := hp.2 h
      refine gz_aload_n K dX9_commutator_55 0 rfl ?_
      refine gz_get K (v := .ref (ad 39)) (by decide) (ce_0 _ _ _ _ _ _) rfl inz_X9 8 (by decide) zq1_210 rfl dX9_commutator_56 ?_
      refine gz_aload_n K dX9_commutator_59 0 rfl ?_
      refine gz_get K (v := .ref (ad 17)) (by decide) (ce_0 _ _ _ _ _ _) rfl inz_X9 6 (by decide) zq1_208 rfl dX9_commutator_60 ?_
      refine gz_iload_n K dX9_commutator_63 2 rfl ?_
      refine gz_callV K hex (c_X4_word K.2.2.2.2.2 K.2.2.1 (by unfold isS; decide) hp) cf_X4_word zq3_191 (by decide) (ce_17 _ _ _ _ _ _) rfl dX9_commutator_64 rfl rfl (Nat.le_of_ble_eq_true rfl) ⟨Nat.le_of_ble_eq_true rfl, Nat.le_of_ble_eq_true rfl⟩ ⟨Nat.le_of_ble_eq_true rfl, Nat.le_of_ble_eq_true rfl⟩ (Nat.le_of_ble_eq_true rfl) (Nat.le_of_ble_eq_true rfl) (fun _ _ h => h.elim) (fun r64 τ hp => ?_)
      obtain ⟨rfl, hp⟩ := hp
      obtain ⟨u64, hp⟩ := hp
      refine gz_norm (st' := [.ref (ad r64), .ref (ad 39)]) (cells' := 3) (slots' := 18) rfl rfl rfl ?_
      refine gz_callV K hex (c_X6_addInverseOf K.2.2.2.2.2 K.2.2.1 (by unfold isW; decide) u64 hp) cf_X6_addInverseOf zq4_21 (by decide) (ce_39 _ _ _ _ _ _) rfl dX9_commutator_67 rfl rfl (Nat.le_of_ble_eq_true rfl) ⟨Nat.le_of_ble_eq_true rfl, Nat.le_of_ble_eq_true rfl⟩ ⟨Nat.le_of_ble_eq_true rfl, Nat.le_of_ble_eq_true rfl⟩ (Nat.le_of_ble_eq_true rfl) (Nat.le_of_ble_eq_true rfl) (fun _ _ h => h.elim) (fun r67 τ67 hp => ?_)
      refine gz_norm (st' := [.int r67]) (cells' := 3) (slots' := 18) rfl rfl rfl ?_
      refine gz_if_eq K 95 dX9_commutator_70 (by decide) (fun h => ?_) (fun h => ?_)
      · have hp := hp.1 h
        refine gz_sub [0, 1] rfl ?_
        exact bb_95 τ67 x1  hp
      · have hp := hp.2 h
        refine gz_aload_n K dX9_commutator_73 0 rfl ?_
        refine gz_get K (v := .ref (ad 39)) (by decide) (ce_0 _ _ _ _ _ _) rfl inz_X9 8 (by decide) zq1_210 rfl dX9_commutator_74 ?_
        refine gz_aload_n K dX9_commutator_77 0 rfl ?_
        refine gz_get K (v := .ref (ad 17)) (by decide) (ce_0 _ _ _ _ _ _) rfl inz_X9 6 (by decide) zq1_208 rfl dX9_commutator_78 ?_
        refine gz_iload_n K dX9_commutator_81 3 rfl ?_
        refine gz_callV K hex (c_X4_word K.2.2.2.2.2 K.2.2.1 (by unfold isS; decide) hp) cf_X4_word zq3_191 (by decide) (ce_17 _ _ _ _ _ _) rfl dX9_commutator_82 rfl rfl (Nat.le_of_ble_eq_true rfl) ⟨Nat.le_of_ble_eq_true rfl, Nat.le_of_ble_eq_true rfl⟩ ⟨Nat.le_of_ble_eq_true rfl, Nat.le_of_ble_eq_true rfl⟩ (Nat.le_of_ble_eq_true rfl) (Nat.le_of_ble_eq_true rfl) (fun _ _ h => h.elim) (fun r82 τ hp => ?_)
        obtain ⟨rfl, hp⟩ := hp
        obtain ⟨u82, hp⟩ := hp
        refine gz_norm (st' := [.ref (ad r82), .ref (ad 39)]) (cells' := 3) (slots' := 18) rfl rfl rfl ?_
        refine gz_callV K hex (c_X6_addInverseOf K.2.2.2.2.2 K.2.2.1 (by unfold isW; decide) u82 hp) cf_X6_addInverseOf zq4_21 (by decide) (ce_39 _ _ _ _ _ _) rfl dX9_commutator_85 rfl rfl (Nat.le_of_ble_eq_true rfl) ⟨Nat.le_of_ble_eq_true rfl, Nat.le_of_ble_eq_true rfl⟩ ⟨Nat.le_of_ble_eq_true rfl, Nat.le_of_ble_eq_true rfl⟩ (Nat.le_of_ble_eq_true rfl) (Nat.le_of_ble_eq_true rfl) (fun _ _ h => h.elim) (fun r85 τ85 hp => ?_)
        refine gz_norm (st' := [.int r85]) (cells' := 3) (slots' := 18) rfl rfl rfl ?_
        refine gz_if_eq K 95 dX9_commutator_88 (by decide) (fun h => ?_) (fun h => ?_)
        · have hp := hp.1 h
          refine gz_sub [0, 1] rfl ?_
          exact bb_95 τ85 x1  hp
        · have hp := hp.2 h
          refine gz_iconst K (v := (1 : Int32)) dX9_commutator_91 (by decide) ?_
          refine gz_goto K 96 dX9_commutator_92 (by decide) ?_
          refine gz_sub [0, 1] rfl ?_
          exact bb_96 τ85 x1 (1 : Int32)  hp
set_option maxRecDepth 100000 in
set_option maxHeartbeats 4000000 in
theorem c_X9_order {l : Launch} {D : va_G} {ad : Nat → Nat} {ty : Nat → ClassId} (hl : l.stackTraces = false) (hj : ∀ i j, i < 68 → j < 68 → ad i = ad j → i = j) {σ : Dz} {x1 : Int32} {post : Int32 → Prop} {px : String → Prop} (hp : P_X9_order σ x1 post px) : Mz l D ad ty yX9_order cX9_order 2 (some .int) r_X9_order nI0 σ [.ref (ad 0), .int x1] (fun r τ => σ = τ ∧ post r) (fun E τ => σ = τ ∧ px E) := by
  refine mz_of (by decide) hl hj (Nat.le_of_ble_eq_true rfl) ?_
  intro p e s m args below meth c K hex hr
  unfold P_X9_order at hp
  show Gz p l e r_X9_order s m args below meth c D ad ty 2 0 0 (Ez below D ad ty nI0 (fun r τ => σ = τ ∧ post r) (fun E τ => σ = τ ∧ px E) args s 1 6) σ 0 [(0, .ref (ad 0)), (1, .int x1)] []
  refine gz_iload_n K dX9_order_0 1 rfl ?_
  refine gz_callS K hex (c_X9_checkSlot K.2.2.2.2.2 K.2.2.1 hp) cf_X9_checkSlot zq3_104 dX9_order_1 rfl rfl (Nat.le_of_ble_eq_true rfl) ⟨Nat.le_of_ble_eq_true rfl, Nat.le_of_ble_eq_true rfl⟩ ⟨Nat.le_of_ble_eq_true rfl, Nat.le_of_ble_eq_true rfl⟩ (Nat.le_of_ble_eq_true rfl) (Nat.le_of_ble_eq_true rfl) (fun _ _ h => ⟨h.1, h.2⟩) (fun _ τ hp => ?_)
  obtain ⟨rfl, hp⟩ := hp
  refine gz_norm (st' := []) (cells' := 1) (slots' := 6) rfl rfl rfl ?_
  refine gz_aload_n K dX9_order_4 0 rfl ?_
  refine gz_get K (v := .ref (ad 17)) (by decide) (ce_0 _ _ _ _ _ _) rfl inz_X9 6 (by decide) zq1_208 rfl dX9_order_5 ?_
  refine gz_iload_n K dX9_order_8 1 rfl ?_
  refine gz_callV K hex (c_X4_effectOfWord K.2.2.2.2.2 K.2.2.1 (by unfold isS; decide) hp) cf_X4_effectOfWord zq4_49 (by decide) (ce_17 _ _ _ _ _ _) rfl dX9_order_9 rfl rfl (Nat.le_of_ble_eq_true rfl) ⟨Nat.le_of_ble_eq_true rfl, Nat.le_of_ble_eq_true rfl⟩ ⟨Nat.le_of_ble_eq_true rfl, Nat.le_of_ble_eq_true rfl⟩ (Nat.le_of_ble_eq_true rfl) (Nat.le_of_ble_eq_true rfl) (fun _ _ h => h.elim) (fun r9 τ hp => ?_)
  obtain ⟨rfl, hp⟩ := hp
  refine gz_norm (st' := [.int r9]) (cells' := 1) (slots' := 6) rfl rfl rfl ?_
  refine gz_callS K hex (c_X3_orderOf K.2.2.2.2.2 K.2.2.1 hp) cf_X3_orderOf zq4_58 dX9_order_12 rfl rfl (Nat.le_of_ble_eq_true rfl) ⟨Nat.le_of_ble_eq_true rfl, Nat.le_of_ble_eq_true rfl⟩ ⟨Nat.le_of_ble_eq_true rfl, Nat.le_of_ble_eq_true rfl⟩ (Nat.le_of_ble_eq_true rfl) (Nat.le_of_ble_eq_true rfl) (fun _ _ h => h.elim) (fun r12 τ hp => ?_)
  obtain ⟨rfl, hp⟩ := hp
  refine gz_norm (st' := [.int r12]) (cells' := 1) (slots' := 6) rfl rfl rfl ?_
  exact gz_iret K hr ⟨rfl, hp⟩ dX9_order_15 (Nat.le_of_ble_eq_true rfl) (Nat.le_of_ble_eq_true rfl)
set_option maxRecDepth 100000 in
set_option maxHeartbeats 4000000 in
theorem c_X9_isOdd {l : Launch} {D : va_G} {ad : Nat → Nat} {ty : Nat → ClassId} (hl : l.stackTraces = false) (hj : ∀ i j, i < 68 → j < 68 → ad i = ad j → i = j) {σ : Dz} {x1 : Int32} {post : Int32 → Prop} {px : String → Prop} (hp : P_X9_isOdd σ x1 post px) : Mz l D ad ty yX9_isOdd cX9_isOdd 2 (some .boolean) r_X9_isOdd nI0 σ [.ref (ad 0), .int x1] (fun r τ => σ = τ ∧ post r) (fun E τ => σ = τ ∧ px E) := by
  refine mz_of (by decide) hl hj (Nat.le_of_ble_eq_true rfl) ?_
  intro p e s m args below meth c K hex hr
  unfold P_X9_isOdd at hp
  show Gz p l e r_X9_isOdd s m args below meth c D ad ty 2 0 0 (Ez below D ad ty nI0 (fun r τ => σ = τ ∧ post r) (fun E τ => σ = τ ∧ px E) args s 1 6) σ 0 [(0, .ref (ad 0)), (1, .int x1)] []
  refine gz_iload_n K dX9_isOdd_0 1 rfl ?_
  refine gz_callS K hex (c_X9_checkSlot K.2.2.2.2.2 K.2.2.1 hp) cf_X9_checkSlot zq3_104 dX9_isOdd_1 rfl rfl (Nat.le_of_ble_eq_true rfl) ⟨Nat.le_of_ble_eq_true rfl, Nat.le_of_ble_eq_true rfl⟩ ⟨Nat.le_of_ble_eq_true rfl, Nat.le_of_ble_eq_true rfl⟩ (Nat.le_of_ble_eq_true rfl) (Nat.le_of_ble_eq_true rfl) (fun _ _ h => ⟨h.1, h.2⟩) (fun _ τ hp => ?_)
  obtain ⟨rfl, hp⟩ := hp
  refine gz_norm (st' := []) (cells' := 1) (slots' := 6) rfl rfl rfl ?_
  refine gz_aload_n K dX9_isOdd_4 0 rfl ?_
  refine gz_get K (v := .ref (ad 17)) (by decide) (ce_0 _ _ _ _ _ _) rfl inz_X9 6 (by decide) zq1_208 rfl dX9_isOdd_5 ?_
  refine gz_iload_n K dX9_isOdd_8 1 rfl ?_
  refine gz_callV K hex (c_X4_effectOfWord K.2.2.2.2.2 K.2.2.1 (by unfold isS; decide) hp) cf_X4_effectOfWord zq4_49 (by decide) (ce_17 _ _ _ _ _ _) rfl dX9_isOdd_9 rfl rfl (Nat.le_of_ble_eq_true rfl) ⟨Nat.le_of_ble_eq_true rfl, Nat.le_of_ble_eq_true rfl⟩ ⟨Nat.le_of_ble_eq_true rfl, Nat.le_of_ble_eq_true rfl⟩ (Nat.le_of_ble_eq_true rfl) (Nat.le_of_ble_eq_true rfl) (fun _ _ h => h.elim) (fun r9 τ hp => ?_)
  obtain ⟨rfl, hp⟩ := hp
  refine gz_norm (st' := [.int r9]) (cells' := 1) (slots' := 6) rfl rfl rfl ?_
  refine gz_callS K hex (c_X3_hasOddParity K.2.2.2.2.2 K.2.2.1 hp) cf_X3_hasOddParity zq4_70 dX9_isOdd_12 rfl rfl (Nat.le_of_ble_eq_true rfl) ⟨Nat.le_of_ble_eq_true rfl, Nat.le_of_ble_eq_true rfl⟩ ⟨Nat.le_of_ble_eq_true rfl, Nat.le_of_ble_eq_true rfl⟩ (Nat.le_of_ble_eq_true rfl) (Nat.le_of_ble_eq_true rfl) (fun _ _ h => h.elim) (fun r12 τ hp => ?_)
  obtain ⟨rfl, hp⟩ := hp
  refine gz_norm (st' := [.int r12]) (cells' := 1) (slots' := 6) rfl rfl rfl ?_
  exact gz_zret K hr (nB hp.1) ⟨rfl, hp.2⟩ dX9_isOdd_15 (Nat.le_of_ble_eq_true rfl) (Nat.le_of_ble_eq_true rfl)
set_option maxRecDepth 100000 in
set_option maxHeartbeats 4000000 in
theorem c_X9_cycleLength {l : Launch} {D : va_G} {ad : Nat → Nat} {ty : Nat → ClassId} (hl : l.stackTraces = false) (hj : ∀ i j, i < 68 → j < 68 → ad i = ad j → i = j) {σ : Dz} {x1 : Int32} {x2 : Int32} {post : Int32 → Prop} {px : String → Prop} (hp : P_X9_cycleLength σ x1 x2 post px) : Mz l D ad ty yX9_cycleLength cX9_cycleLength 3 (some .int) r_X9_cycleLength nI0 σ [.ref (ad 0), .int x1, .int x2] (fun r τ => σ = τ ∧ post r) (fun E τ => σ = τ ∧ px E) := by
  refine mz_of (by decide) hl hj (Nat.le_of_ble_eq_true rfl) ?_
  intro p e s m args below meth c K hex hr
  unfold P_X9_cycleLength at hp
  show Gz p l e r_X9_cycleLength s m args below meth c D ad ty 3 0 0 (Ez below D ad ty nI0 (fun r τ => σ = τ ∧ post r) (fun E τ => σ = τ ∧ px E) args s 2 12) σ 0 [(0, .ref (ad 0)), (1, .int x1), (2, .int x2)] []
  refine gz_iload_n K dX9_cycleLength_0 1 rfl ?_
  refine gz_callS K hex (c_X9_checkSlot K.2.2.2.2.2 K.2.2.1 hp) cf_X9_checkSlot zq3_104 dX9_cycleLength_1 rfl rfl (Nat.le_of_ble_eq_true rfl) ⟨Nat.le_of_ble_eq_true rfl, Nat.le_of_ble_eq_true rfl⟩ ⟨Nat.le_of_ble_eq_true rfl, Nat.le_of_ble_eq_true rfl⟩ (Nat.le_of_ble_eq_true rfl) (Nat.le_of_ble_eq_true rfl) (fun _ _ h => ⟨h.1, h.2⟩) (fun _ τ hp => ?_)
  obtain ⟨rfl, hp⟩ := hp
  refine gz_norm (st' := []) (cells' := 1) (slots' := 6) rfl rfl rfl ?_
  refine gz_aload_n K dX9_cycleLength_4 0 rfl ?_
  refine gz_iload_n K dX9_cycleLength_5 2 rfl ?_
  refine gz_callV K hex (c_X9_checkPosition K.2.2.2.2.2 K.2.2.1 hp) cf_X9_checkPosition zq3_228 (by decide) (ce_0 _ _ _ _ _ _) rfl dX9_cycleLength_6 rfl rfl (Nat.le_of_ble_eq_true rfl) ⟨Nat.le_of_ble_eq_true rfl, Nat.le_of_ble_eq_true rfl⟩ ⟨Nat.le_of_ble_eq_true rfl, Nat.le_of_ble_eq_true rfl⟩ (Nat.le_of_ble_eq_true rfl) (Nat.le_of_ble_eq_true rfl) (fun _ _ h => ⟨h.1, h.2⟩) (fun _ τ hp => ?_)
  obtain ⟨rfl, hp⟩ := hp
  refine gz_norm (st' := []) (cells' := 2) (slots' := 12) rfl rfl rfl ?_
  refine gz_aload_n K dX9_cycleLength_9 0 rfl ?_
  refine gz_get K (v := .ref (ad 17)) (by decide) (ce_0 _ _ _ _ _ _) rfl inz_X9 6 (by decide) zq1_208 rfl dX9_cycleLength_10 ?_
  refine gz_iload_n K dX9_cycleLength_13 1 rfl ?_
  refine gz_callV K hex (c_X4_effectOfWord K.2.2.2.2.2 K.2.2.1 (by unfold isS; decide) hp) cf_X4_effectOfWord zq4_49 (by decide) (ce_17 _ _ _ _ _ _) rfl dX9_cycleLength_14 rfl rfl (Nat.le_of_ble_eq_true rfl) ⟨Nat.le_of_ble_eq_true rfl, Nat.le_of_ble_eq_true rfl⟩ ⟨Nat.le_of_ble_eq_true rfl, Nat.le_of_ble_eq_true rfl⟩ (Nat.le_of_ble_eq_true rfl) (Nat.le_of_ble_eq_true rfl) (fun _ _ h => h.elim) (fun r14 τ hp => ?_)
  obtain ⟨rfl, hp⟩ := hp
  refine gz_norm (st' := [.int r14]) (cells' := 2) (slots' := 12) rfl rfl rfl ?_
  refine gz_iload_n K dX9_cycleLength_17 2 rfl ?_
  refine gz_iconst K (v := (1 : Int32)) dX9_cycleLength_18 (by decide) ?_
  refine gz_isub K dX9_cycleLength_19 ?_
  refine gz_callS K hex (c_X3_cycleOf K.2.2.2.2.2 K.2.2.1 hp) cf_X3_cycleOf zq4_80 dX9_cycleLength_20 rfl rfl (Nat.le_of_ble_eq_true rfl) ⟨Nat.le_of_ble_eq_true rfl, Nat.le_of_ble_eq_true rfl⟩ ⟨Nat.le_of_ble_eq_true rfl, Nat.le_of_ble_eq_true rfl⟩ (Nat.le_of_ble_eq_true rfl) (Nat.le_of_ble_eq_true rfl) (fun _ _ h => h.elim) (fun r20 τ hp => ?_)
  obtain ⟨rfl, hp⟩ := hp
  refine gz_norm (st' := [.int r20]) (cells' := 2) (slots' := 12) rfl rfl rfl ?_
  exact gz_iret K hr ⟨rfl, hp⟩ dX9_cycleLength_23 (Nat.le_of_ble_eq_true rfl) (Nat.le_of_ble_eq_true rfl)
set_option maxRecDepth 100000 in
set_option maxHeartbeats 4000000 in
theorem c_X9_isSame {l : Launch} {D : va_G} {ad : Nat → Nat} {ty : Nat → ClassId} (hl : l.stackTraces = false) (hj : ∀ i j, i < 68 → j < 68 → ad i = ad j → i = j) {σ : Dz} {x1 : Int32} {x2 : Int32} {post : Int32 → Prop} {px : String → Prop} (hp : P_X9_isSame σ x1 x2 post px) : Mz l D ad ty yX9_isSame cX9_isSame 3 (some .boolean) r_X9_isSame nI0 σ [.ref (ad 0), .int x1, .int x2] (fun r τ => σ = τ ∧ post r) (fun E τ => σ = τ ∧ px E) := by
  refine mz_of (by decide) hl hj (Nat.le_of_ble_eq_true rfl) ?_
  intro p e s m args below meth c K hex hr
  unfold P_X9_isSame at hp
  show Gz p l e r_X9_isSame s m args below meth c D ad ty 3 0 0 (Ez below D ad ty nI0 (fun r τ => σ = τ ∧ post r) (fun E τ => σ = τ ∧ px E) args s 2 12) σ 0 [(0, .ref (ad 0)), (1, .int x1), (2, .int x2)] []
  refine gz_iload_n K dX9_isSame_0 1 rfl ?_
  refine gz_callS K hex (c_X9_checkSlot K.2.2.2.2.2 K.2.2.1 hp) cf_X9_checkSlot zq3_104 dX9_isSame_1 rfl rfl (Nat.le_of_ble_eq_true rfl) ⟨Nat.le_of_ble_eq_true rfl, Nat.le_of_ble_eq_true rfl⟩ ⟨Nat.le_of_ble_eq_true rfl, Nat.le_of_ble_eq_true rfl⟩ (Nat.le_of_ble_eq_true rfl) (Nat.le_of_ble_eq_true rfl) (fun _ _ h => ⟨h.1, h.2⟩) (fun _ τ hp => ?_)
  obtain ⟨rfl, hp⟩ := hp
  refine gz_norm (st' := []) (cells' := 1) (slots' := 6) rfl rfl rfl ?_
  refine gz_iload_n K dX9_isSame_4 2 rfl ?_
  refine gz_callS K hex (c_X9_checkSlot K.2.2.2.2.2 K.2.2.1 hp) cf_X9_checkSlot zq3_104 dX9_isSame_5 rfl rfl (Nat.le_of_ble_eq_true rfl) ⟨Nat.le_of_ble_eq_true rfl, Nat.le_of_ble_eq_true rfl⟩ ⟨Nat.le_of_ble_eq_true rfl, Nat.le_of_ble_eq_true rfl⟩ (Nat.le_of_ble_eq_true rfl) (Nat.le_of_ble_eq_true rfl) (fun _ _ h => ⟨h.1, h.2⟩) (fun _ τ hp => ?_)
  obtain ⟨rfl, hp⟩ := hp
  refine gz_norm (st' := []) (cells' := 2) (slots' := 12) rfl rfl rfl ?_
  refine gz_aload_n K dX9_isSame_8 0 rfl ?_
  refine gz_get K (v := .ref (ad 17)) (by decide) (ce_0 _ _ _ _ _ _) rfl inz_X9 6 (by decide) zq1_208 rfl dX9_isSame_9 ?_
  refine gz_iload_n K dX9_isSame_12 1 rfl ?_
  refine gz_callV K hex (c_X4_effectOfWord K.2.2.2.2.2 K.2.2.1 (by unfold isS; decide) hp) cf_X4_effectOfWord zq4_49 (by decide) (ce_17 _ _ _ _ _ _) rfl dX9_isSame_13 rfl rfl (Nat.le_of_ble_eq_true rfl) ⟨Nat.le_of_ble_eq_true rfl, Nat.le_of_ble_eq_true rfl⟩ ⟨Nat.le_of_ble_eq_true rfl, Nat.le_of_ble_eq_true rfl⟩ (Nat.le_of_ble_eq_true rfl) (Nat.le_of_ble_eq_true rfl) (fun _ _ h => h.elim) (fun r13 τ hp => ?_)
  obtain ⟨rfl, hp⟩ := hp
  refine gz_norm (st' := [.int r13]) (cells' := 2) (slots' := 12) rfl rfl rfl ?_
  refine gz_aload_n K dX9_isSame_16 0 rfl ?_
  refine gz_get K (v := .ref (ad 17)) (by decide) (ce_0 _ _ _ _ _ _) rfl inz_X9 6 (by decide) zq1_208 rfl dX9_isSame_17 ?_
  refine gz_iload_n K dX9_isSame_20 2 rfl ?_
  refine gz_callV K hex (c_X4_effectOfWord K.2.2.2.2.2 K.2.2.1 (by unfold isS; decide) hp) cf_X4_effectOfWord zq4_49 (by decide) (ce_17 _ _ _ _ _ _) rfl dX9_isSame_21 rfl rfl (Nat.le_of_ble_eq_true rfl) ⟨Nat.le_of_ble_eq_true rfl, Nat.le_of_ble_eq_true rfl⟩ ⟨Nat.le_of_ble_eq_true rfl, Nat.le_of_ble_eq_true rfl⟩ (Nat.le_of_ble_eq_true rfl) (Nat.le_of_ble_eq_true rfl) (fun _ _ h => h.elim) (fun r21 τ hp => ?_)
  obtain ⟨rfl, hp⟩ := hp
  refine gz_norm (st' := [.int r21, .int r13]) (cells' := 2) (slots' := 12) rfl rfl rfl ?_
  refine gz_icmp_ne K 31 dX9_isSame_24 (by decide) (fun h => ?_) (fun h => ?_)
  · have hp := hp.1 h
    refine gz_iconst K (v := (0 : Int32)) dX9_isSame_31 (by decide) ?_
    exact gz_zret K hr (by decide) ⟨rfl, hp⟩ dX9_isSame_32 (Nat.le_of_ble_eq_true rfl) (Nat.le_of_ble_eq_true rfl)
  · have hp := hp.2 h
    refine gz_iconst K (v := (1 : Int32)) dX9_isSame_27 (by decide) ?_
    refine gz_goto K 32 dX9_isSame_28 (by decide) ?_
    exact gz_zret K hr (by decide) ⟨rfl, hp⟩ dX9_isSame_32 (Nat.le_of_ble_eq_true rfl) (Nat.le_of_ble_eq_true rfl)
set_option maxRecDepth 100000 in
set_option maxHeartbeats 4000000 in
theorem c_X9_perform {l : Launch} {D : va_G} {ad : Nat → Nat} {ty : Nat → ClassId} (hl : l.stackTraces = false) (hj : ∀ i j, i < 68 → j < 68 → ad i = ad j → i = j) {σ : Dz} {x1 : Int32} {x2 : Int32} {post : Int32 → Dz → Prop} {px : String → Dz → Prop} (hp : P_X9_perform σ x1 x2 post px) : Mz l D ad ty yX9_perform cX9_perform 8 (some .int) r_X9_perform nI0 σ [.ref (ad 0), .int x1, .int x2] post px := by
  refine mz_of (by decide) hl hj (Nat.le_of_ble_eq_true rfl) ?_
  intro p e s m args below meth c K hex hr
  unfold P_X9_perform at hp
  have bb_47 : ∀ (σ : Dz) (y2 : Int32) (z0 : Int32) , B_X9_perform_47 post px  σ y2 z0 → Gz p l e r_X9_perform s m args below meth c D ad ty 8 1 6 (Ez below D ad ty nI0 post px args s 2 12) σ 47 [(0, .ref (ad 0)), (2, .int y2)] [.int z0] := by
    intro σ y2 z0 hp
    unfold B_X9_perform_47 at hp
    refine gz_istore K [(4, .int z0), (0, .ref (ad 0)), (2, .int y2)] dX9_perform_47 (by decide) rfl ?_
    refine gz_aload_n K dX9_perform_49 1 rfl ?_
    refine gz_get K (v := .ref (ad 17)) (by decide) (ce_0 _ _ _ _ _ _) rfl inz_X9 6 (by decide) zq1_208 rfl dX9_perform_50 ?_
    refine gz_callV K hex (c_X4_places K.2.2.2.2.2 K.2.2.1 (by unfold isS; decide) hp) cf_X4_places zq4_99 (by decide) (ce_17 _ _ _ _ _ _) rfl dX9_perform_53 rfl rfl (Nat.le_of_ble_eq_true rfl) ⟨Nat.le_of_ble_eq_true rfl, Nat.le_of_ble_eq_true rfl⟩ ⟨Nat.le_of_ble_eq_true rfl, Nat.le_of_ble_eq_true rfl⟩ (Nat.le_of_ble_eq_true rfl) (Nat.le_of_ble_eq_true rfl) (fun _ _ h => h.elim) (fun r53 τ hp => ?_)
    obtain ⟨rfl, hp⟩ := hp
    refine gz_norm (st' := [.int r53]) (cells' := 1) (slots' := 6) rfl rfl rfl ?_
    refine gz_istore K [(5, .int r53), (4, .int z0), (0, .ref (ad 0)), (2, .int y2)] dX9_perform_56 (by decide) rfl ?_
    refine gz_iload K dX9_perform_58 0 rfl ?_
    refine gz_istore K [(6, .int r53), (5, .int r53), (4, .int z0), (0, .ref (ad 0)), (2, .int y2)] dX9_perform_60 (by decide) rfl ?_
    refine gz_iload_n K dX9_perform_62 4 rfl ?_
    refine gz_mabs K zq4_103 zq4_104 zq1_23 zq4_105 dX9_perform_63 (Nat.le_of_ble_eq_true rfl) (Nat.le_of_ble_eq_true rfl) (Nat.le_of_ble_eq_true rfl) (Nat.le_of_ble_eq_true rfl) ?_
    refine gz_istore K [(7, .int (if 0 ≤ y2 then y2 else 0 - y2)), (6, .int r53), (5, .int r53), (4, .int z0), (0, .ref (ad 0)), (2, .int y2)] dX9_perform_66 (by decide) rfl ?_
    refine gz_sub [4, 3, 2, 1, 0] rfl ?_
    have ll_68 : ∀ (n_68 : Nat) (σ : Dz) (y4 : Int32) (y5 : Int32) (y6 : Int32) (y7 : Int32) , L_X9_perform_68 post px  n_68 σ y4 y5 y6 y7 → Gz p l e r_X9_perform s m args below meth c D ad ty 8 1 6 (Ez below D ad ty nI0 post px args s 2 12) σ 68 [(0, .ref (ad 0)), (4, .int y4), (5, .int y5), (6, .int y6), (7, .int y7)] [] := by
      intro n_68; induction n_68 with
      | zero => intro σ y4 y5 y6 y7 hp; exact False.elim hp
      | succ n_68 ih_68 =>
        intro σ y4 y5 y6 y7 hp
        have hp : B_X9_perform_68 post px  (L_X9_perform_68 post px  n_68) σ y4 y5 y6 y7 := hp
        unfold B_X9_perform_68 at hp
        refine gz_iload K dX9_perform_68 4 rfl ?_
        refine gz_if_le K 88 dX9_perform_70 (by decide) (fun h => ?_) (fun h => ?_)
        · have hp := hp.1 h
          refine gz_aload_n K dX9_perform_88 0 rfl ?_
          refine gz_get K (v := .ref (ad 17)) (by decide) (ce_0 _ _ _ _ _ _) rfl inz_X9 6 (by decide) zq1_208 rfl dX9_perform_89 ?_
          refine gz_iload K dX9_perform_92 3 rfl ?_
          refine gz_callV K hex (c_X4_arrange K.2.2.2.2.2 K.2.2.1 (by unfold isS; decide) hp) cf_X4_arrange zq4_107 (by decide) (ce_17 _ _ _ _ _ _) rfl dX9_perform_94 rfl rfl (Nat.le_of_ble_eq_true rfl) ⟨Nat.le_of_ble_eq_true rfl, Nat.le_of_ble_eq_true rfl⟩ ⟨Nat.le_of_ble_eq_true rfl, Nat.le_of_ble_eq_true rfl⟩ (Nat.le_of_ble_eq_true rfl) (Nat.le_of_ble_eq_true rfl) (fun _ _ h => h.elim) (fun _ τ94 hp => ?_)
          refine gz_norm (st' := []) (cells' := 1) (slots' := 6) rfl rfl rfl ?_
          refine gz_iload K dX9_perform_97 2 rfl ?_
          refine gz_iload K dX9_perform_99 3 rfl ?_
          refine gz_callS K hex (c_X3_differences K.2.2.2.2.2 K.2.2.1 hp) cf_X3_differences zq3_80 dX9_perform_101 rfl rfl (Nat.le_of_ble_eq_true rfl) ⟨Nat.le_of_ble_eq_true rfl, Nat.le_of_ble_eq_true rfl⟩ ⟨Nat.le_of_ble_eq_true rfl, Nat.le_of_ble_eq_true rfl⟩ (Nat.le_of_ble_eq_true rfl) (Nat.le_of_ble_eq_true rfl) (fun _ _ h => h.elim) (fun r101 τ hp => ?_)
          obtain ⟨rfl, hp⟩ := hp
          refine gz_norm (st' := [.int r101]) (cells' := 1) (slots' := 6) rfl rfl rfl ?_
          exact gz_iret K hr hp dX9_perform_104 (Nat.le_of_ble_eq_true rfl) (Nat.le_of_ble_eq_true rfl)
        · have hp := hp.2 h
          refine gz_iload K dX9_perform_73 3 rfl ?_
          refine gz_iload K dX9_perform_75 1 rfl ?_
          refine gz_callS K hex (c_X3_then K.2.2.2.2.2 K.2.2.1 hp) cf_X3_then zq4_106 dX9_perform_77 rfl rfl (Nat.le_of_ble_eq_true rfl) ⟨Nat.le_of_ble_eq_true rfl, Nat.le_of_ble_eq_true rfl⟩ ⟨Nat.le_of_ble_eq_true rfl, Nat.le_of_ble_eq_true rfl⟩ (Nat.le_of_ble_eq_true rfl) (Nat.le_of_ble_eq_true rfl) (fun _ _ h => h.elim) (fun r77 τ hp => ?_)
          obtain ⟨rfl, hp⟩ := hp
          refine gz_norm (st' := [.int r77]) (cells' := 1) (slots' := 6) rfl rfl rfl ?_
          refine gz_istore K [(6, .int r77), (0, .ref (ad 0)), (4, .int y4), (5, .int y5), (7, .int y7)] dX9_perform_80 (by decide) rfl ?_
          refine gz_iinc K (v := (y7 + (-1))) [(7, .int (y7 + (-1))), (6, .int r77), (0, .ref (ad 0)), (4, .int y4), (5, .int y5)] dX9_perform_82 4 rfl (by first | rfl | decide) (by decide) rfl ?_
          refine gz_goto K 68 dX9_perform_85 (by decide) ?_
          refine gz_sub [2, 3, 4, 1, 0] rfl ?_
          exact ih_68 σ y4 y5 r77 (y7 + (-1))  hp
    obtain ⟨n, hp⟩ := hp
    exact ll_68 n σ z0 r53 r53 (if 0 ≤ y2 then y2 else 0 - y2)  hp
  show Gz p l e r_X9_perform s m args below meth c D ad ty 8 0 0 (Ez below D ad ty nI0 post px args s 2 12) σ 0 [(0, .ref (ad 0)), (1, .int x1), (2, .int x2)] []
  refine gz_iload_n K dX9_perform_0 1 rfl ?_
  refine gz_callS K hex (c_X9_checkSlot K.2.2.2.2.2 K.2.2.1 hp) cf_X9_checkSlot zq3_104 dX9_perform_1 rfl rfl (Nat.le_of_ble_eq_true rfl) ⟨Nat.le_of_ble_eq_true rfl, Nat.le_of_ble_eq_true rfl⟩ ⟨Nat.le_of_ble_eq_true rfl, Nat.le_of_ble_eq_true rfl⟩ (Nat.le_of_ble_eq_true rfl) (Nat.le_of_ble_eq_true rfl) (fun _ _ h => h.1 ▸ h.2) (fun _ τ hp => ?_)
  obtain ⟨rfl, hp⟩ := hp
  refine gz_norm (st' := []) (cells' := 1) (slots' := 6) rfl rfl rfl ?_
  refine gz_iload_n K dX9_perform_4 2 rfl ?_
  refine gz_bipush K (v := (-100 : Int32)) dX9_perform_5 (by decide) ?_
  refine gz_icmp_lt K 16 dX9_perform_7 (by decide) (fun h => ?_) (fun h => ?_)
  · have hp := hp.1 h
    obtain ⟨sa, hsa⟩ := K.2.2.2.2.1.2.2.1 _ (List.mem_of_getElem? (l := zStr) (i := 15) rfl)
    exact gz_throw K hex false rfl xd_IllegalArgumentException_0 xd_IllegalArgumentException_1 xd_IllegalArgumentException_2 xd_IllegalArgumentException_5 (by decide) zq2_131 zq1_14 hsa xl_94 dX9_perform_16 dX9_perform_19 dX9_perform_20 dX9_perform_22 dX9_perform_25 (Nat.le_of_ble_eq_true rfl) (Nat.le_of_ble_eq_true rfl) (Nat.le_of_ble_eq_true rfl) (Nat.le_of_ble_eq_true rfl) hp (Nat.le_of_ble_eq_true rfl) (Nat.le_of_ble_eq_true rfl)
  · have hp := hp.2 h
    refine gz_iload_n K dX9_perform_10 2 rfl ?_
    refine gz_bipush K (v := (100 : Int32)) dX9_perform_11 (by decide) ?_
    refine gz_icmp_le K 26 dX9_perform_13 (by decide) (fun h => ?_) (fun h => ?_)
    · have hp := hp.1 h
      refine gz_aload_n K dX9_perform_26 0 rfl ?_
      refine gz_get K (v := .ref (ad 17)) (by decide) (ce_0 _ _ _ _ _ _) rfl inz_X9 6 (by decide) zq1_208 rfl dX9_perform_27 ?_
      refine gz_iload_n K dX9_perform_30 1 rfl ?_
      refine gz_callV K hex (c_X4_effectOfWord K.2.2.2.2.2 K.2.2.1 (by unfold isS; decide) hp) cf_X4_effectOfWord zq4_49 (by decide) (ce_17 _ _ _ _ _ _) rfl dX9_perform_31 rfl rfl (Nat.le_of_ble_eq_true rfl) ⟨Nat.le_of_ble_eq_true rfl, Nat.le_of_ble_eq_true rfl⟩ ⟨Nat.le_of_ble_eq_true rfl, Nat.le_of_ble_eq_true rfl⟩ (Nat.le_of_ble_eq_true rfl) (Nat.le_of_ble_eq_true rfl) (fun _ _ h => h.elim) (fun r31 τ hp => ?_)
      obtain ⟨rfl, hp⟩ := hp
      refine gz_norm (st' := [.int r31]) (cells' := 1) (slots' := 6) rfl rfl rfl ?_
      refine gz_istore_n K [(3, .int r31), (0, .ref (ad 0)), (1, .int x1), (2, .int x2)] dX9_perform_34 (by decide) rfl ?_
      refine gz_iload_n K dX9_perform_35 3 rfl ?_
      refine gz_if_ge K 46 dX9_perform_36 (by decide) (fun h => ?_) (fun h => ?_)
      · have hp := hp.1 h
        refine gz_iload_n K dX9_perform_46 0 rfl ?_
        refine gz_sub [1, 3] rfl ?_
        exact bb_47 σ x2 r31  hp
      · have hp := hp.2 h
        refine gz_iload_n K dX9_perform_39 0 rfl ?_
        refine gz_callS K hex (c_X3_inverseOf K.2.2.2.2.2 K.2.2.1 hp) cf_X3_inverseOf zq4_98 dX9_perform_40 rfl rfl (Nat.le_of_ble_eq_true rfl) ⟨Nat.le_of_ble_eq_true rfl, Nat.le_of_ble_eq_true rfl⟩ ⟨Nat.le_of_ble_eq_true rfl, Nat.le_of_ble_eq_true rfl⟩ (Nat.le_of_ble_eq_true rfl) (Nat.le_of_ble_eq_true rfl) (fun _ _ h => h.elim) (fun r40 τ hp => ?_)
        obtain ⟨rfl, hp⟩ := hp
        refine gz_norm (st' := [.int r40]) (cells' := 1) (slots' := 6) rfl rfl rfl ?_
        refine gz_goto K 47 dX9_perform_43 (by decide) ?_
        refine gz_sub [1, 3] rfl ?_
        exact bb_47 σ x2 r40  hp
    · have hp := hp.2 h
      obtain ⟨sa, hsa⟩ := K.2.2.2.2.1.2.2.1 _ (List.mem_of_getElem? (l := zStr) (i := 15) rfl)
      exact gz_throw K hex false rfl xd_IllegalArgumentException_0 xd_IllegalArgumentException_1 xd_IllegalArgumentException_2 xd_IllegalArgumentException_5 (by decide) zq2_131 zq1_14 hsa xl_94 dX9_perform_16 dX9_perform_19 dX9_perform_20 dX9_perform_22 dX9_perform_25 (Nat.le_of_ble_eq_true rfl) (Nat.le_of_ble_eq_true rfl) (Nat.le_of_ble_eq_true rfl) (Nat.le_of_ble_eq_true rfl) hp (Nat.le_of_ble_eq_true rfl) (Nat.le_of_ble_eq_true rfl)
set_option maxRecDepth 100000 in
set_option maxHeartbeats 4000000 in
theorem c_X9_tokenOn {l : Launch} {D : va_G} {ad : Nat → Nat} {ty : Nat → ClassId} (hl : l.stackTraces = false) (hj : ∀ i j, i < 68 → j < 68 → ad i = ad j → i = j) {σ : Dz} {x1 : Int32} {post : Int32 → Prop} (hp : P_X9_tokenOn σ x1 post) : Mz l D ad ty yX9_tokenOn cX9_tokenOn 2 (some .int) r_X9_tokenOn nI0 σ [.ref (ad 0), .int x1] (fun r τ => σ = τ ∧ post r) (fun _ _ => False) := by
  refine mz_of (by decide) hl hj (Nat.le_of_ble_eq_true rfl) ?_
  intro p e s m args below meth c K hex hr
  unfold P_X9_tokenOn at hp
  show Gz p l e r_X9_tokenOn s m args below meth c D ad ty 2 0 0 (Ez below D ad ty nI0 (fun r τ => σ = τ ∧ post r) (fun _ _ => False) args s 0 0) σ 0 [(0, .ref (ad 0)), (1, .int x1)] []
  refine gz_aload_n K dX9_tokenOn_0 0 rfl ?_
  refine gz_get K (v := .ref (ad 17)) (by decide) (ce_0 _ _ _ _ _ _) rfl inz_X9 6 (by decide) zq1_208 rfl dX9_tokenOn_1 ?_
  refine gz_callV K hex (c_X4_places K.2.2.2.2.2 K.2.2.1 (by unfold isS; decide) hp) cf_X4_places zq4_99 (by decide) (ce_17 _ _ _ _ _ _) rfl dX9_tokenOn_4 rfl rfl (Nat.le_of_ble_eq_true rfl) ⟨Nat.le_of_ble_eq_true rfl, Nat.le_of_ble_eq_true rfl⟩ ⟨Nat.le_of_ble_eq_true rfl, Nat.le_of_ble_eq_true rfl⟩ (Nat.le_of_ble_eq_true rfl) (Nat.le_of_ble_eq_true rfl) (fun _ _ h => h.elim) (fun r4 τ hp => ?_)
  obtain ⟨rfl, hp⟩ := hp
  refine gz_norm (st' := [.int r4]) (cells' := 0) (slots' := 0) rfl rfl rfl ?_
  refine gz_callS K hex (c_X3_inverseOf K.2.2.2.2.2 K.2.2.1 hp) cf_X3_inverseOf zq4_98 dX9_tokenOn_7 rfl rfl (Nat.le_of_ble_eq_true rfl) ⟨Nat.le_of_ble_eq_true rfl, Nat.le_of_ble_eq_true rfl⟩ ⟨Nat.le_of_ble_eq_true rfl, Nat.le_of_ble_eq_true rfl⟩ (Nat.le_of_ble_eq_true rfl) (Nat.le_of_ble_eq_true rfl) (fun _ _ h => h.elim) (fun r7 τ hp => ?_)
  obtain ⟨rfl, hp⟩ := hp
  refine gz_norm (st' := [.int r7]) (cells' := 0) (slots' := 0) rfl rfl rfl ?_
  refine gz_iload_n K dX9_tokenOn_10 1 rfl ?_
  refine gz_iconst K (v := (1 : Int32)) dX9_tokenOn_11 (by decide) ?_
  refine gz_isub K dX9_tokenOn_12 ?_
  refine gz_callS K hex (c_X3_imageOf K.2.2.2.2.2 K.2.2.1 hp) cf_X3_imageOf zq3_236 dX9_tokenOn_13 rfl rfl (Nat.le_of_ble_eq_true rfl) ⟨Nat.le_of_ble_eq_true rfl, Nat.le_of_ble_eq_true rfl⟩ ⟨Nat.le_of_ble_eq_true rfl, Nat.le_of_ble_eq_true rfl⟩ (Nat.le_of_ble_eq_true rfl) (Nat.le_of_ble_eq_true rfl) (fun _ _ h => h.elim) (fun r13 τ hp => ?_)
  obtain ⟨rfl, hp⟩ := hp
  refine gz_norm (st' := [.int r13]) (cells' := 0) (slots' := 0) rfl rfl rfl ?_
  refine gz_iconst K (v := (1 : Int32)) dX9_tokenOn_16 (by decide) ?_
  refine gz_iadd K dX9_tokenOn_17 ?_
  exact gz_iret K hr ⟨rfl, hp⟩ dX9_tokenOn_18 (Nat.le_of_ble_eq_true rfl) (Nat.le_of_ble_eq_true rfl)
set_option maxRecDepth 100000 in
set_option maxHeartbeats 4000000 in
theorem c_X9_exchange {l : Launch} {D : va_G} {ad : Nat → Nat} {ty : Nat → ClassId} (hl : l.stackTraces = false) (hj : ∀ i j, i < 68 → j < 68 → ad i = ad j → i = j) {σ : Dz} {x1 : Int32} {x2 : Int32} {post : Int32 → Dz → Prop} {px : String → Dz → Prop} (hp : P_X9_exchange σ x1 x2 post px) : Mz l D ad ty yX9_exchange cX9_exchange 4 (some .int) r_X9_exchange nI0 σ [.ref (ad 0), .int x1, .int x2] post px := by
  refine mz_of (by decide) hl hj (Nat.le_of_ble_eq_true rfl) ?_
  intro p e s m args below meth c K hex hr
  unfold P_X9_exchange at hp
  show Gz p l e r_X9_exchange s m args below meth c D ad ty 4 0 0 (Ez below D ad ty nI0 post px args s 2 12) σ 0 [(0, .ref (ad 0)), (1, .int x1), (2, .int x2)] []
  refine gz_aload_n K dX9_exchange_0 0 rfl ?_
  refine gz_iload_n K dX9_exchange_1 1 rfl ?_
  refine gz_callV K hex (c_X9_checkPosition K.2.2.2.2.2 K.2.2.1 hp) cf_X9_checkPosition zq3_228 (by decide) (ce_0 _ _ _ _ _ _) rfl dX9_exchange_2 rfl rfl (Nat.le_of_ble_eq_true rfl) ⟨Nat.le_of_ble_eq_true rfl, Nat.le_of_ble_eq_true rfl⟩ ⟨Nat.le_of_ble_eq_true rfl, Nat.le_of_ble_eq_true rfl⟩ (Nat.le_of_ble_eq_true rfl) (Nat.le_of_ble_eq_true rfl) (fun _ _ h => h.1 ▸ h.2) (fun _ τ hp => ?_)
  obtain ⟨rfl, hp⟩ := hp
  refine gz_norm (st' := []) (cells' := 1) (slots' := 6) rfl rfl rfl ?_
  refine gz_aload_n K dX9_exchange_5 0 rfl ?_
  refine gz_iload_n K dX9_exchange_6 2 rfl ?_
  refine gz_callV K hex (c_X9_checkPosition K.2.2.2.2.2 K.2.2.1 hp) cf_X9_checkPosition zq3_228 (by decide) (ce_0 _ _ _ _ _ _) rfl dX9_exchange_7 rfl rfl (Nat.le_of_ble_eq_true rfl) ⟨Nat.le_of_ble_eq_true rfl, Nat.le_of_ble_eq_true rfl⟩ ⟨Nat.le_of_ble_eq_true rfl, Nat.le_of_ble_eq_true rfl⟩ (Nat.le_of_ble_eq_true rfl) (Nat.le_of_ble_eq_true rfl) (fun _ _ h => h.1 ▸ h.2) (fun _ τ hp => ?_)
  obtain ⟨rfl, hp⟩ := hp
  refine gz_norm (st' := []) (cells' := 2) (slots' := 12) rfl rfl rfl ?_
  refine gz_ldc K zq3_79 dX9_exchange_10 ?_
  refine gz_iload_n K dX9_exchange_12 1 rfl ?_
  refine gz_iconst K (v := (1 : Int32)) dX9_exchange_13 (by decide) ?_
  refine gz_isub K dX9_exchange_14 ?_
  refine gz_iload_n K dX9_exchange_15 2 rfl ?_
  refine gz_iconst K (v := (1 : Int32)) dX9_exchange_16 (by decide) ?_
  refine gz_isub K dX9_exchange_17 ?_
  refine gz_callS K hex (c_X3_withImage K.2.2.2.2.2 K.2.2.1 hp) cf_X3_withImage zq4_118 dX9_exchange_18 rfl rfl (Nat.le_of_ble_eq_true rfl) ⟨Nat.le_of_ble_eq_true rfl, Nat.le_of_ble_eq_true rfl⟩ ⟨Nat.le_of_ble_eq_true rfl, Nat.le_of_ble_eq_true rfl⟩ (Nat.le_of_ble_eq_true rfl) (Nat.le_of_ble_eq_true rfl) (fun _ _ h => h.elim) (fun r18 τ hp => ?_)
  obtain ⟨rfl, hp⟩ := hp
  refine gz_norm (st' := [.int r18]) (cells' := 2) (slots' := 12) rfl rfl rfl ?_
  refine gz_istore_n K [(3, .int r18), (0, .ref (ad 0)), (1, .int x1), (2, .int x2)] dX9_exchange_21 (by decide) rfl ?_
  refine gz_iload_n K dX9_exchange_22 0 rfl ?_
  refine gz_iload_n K dX9_exchange_23 3 rfl ?_
  refine gz_iconst K (v := (1 : Int32)) dX9_exchange_24 (by decide) ?_
  refine gz_isub K dX9_exchange_25 ?_
  refine gz_iload_n K dX9_exchange_26 2 rfl ?_
  refine gz_iconst K (v := (1 : Int32)) dX9_exchange_27 (by decide) ?_
  refine gz_isub K dX9_exchange_28 ?_
  refine gz_callS K hex (c_X3_withImage K.2.2.2.2.2 K.2.2.1 hp) cf_X3_withImage zq4_118 dX9_exchange_29 rfl rfl (Nat.le_of_ble_eq_true rfl) ⟨Nat.le_of_ble_eq_true rfl, Nat.le_of_ble_eq_true rfl⟩ ⟨Nat.le_of_ble_eq_true rfl, Nat.le_of_ble_eq_true rfl⟩ (Nat.le_of_ble_eq_true rfl) (Nat.le_of_ble_eq_true rfl) (fun _ _ h => h.elim) (fun r29 τ hp => ?_)
  obtain ⟨rfl, hp⟩ := hp
  refine gz_norm (st' := [.int r29]) (cells' := 2) (slots' := 12) rfl rfl rfl ?_
  refine gz_istore_n K [(3, .int r29), (0, .ref (ad 0)), (1, .int x1), (2, .int x2)] dX9_exchange_32 (by decide) rfl ?_
  refine gz_aload_n K dX9_exchange_33 1 rfl ?_
  refine gz_get K (v := .ref (ad 17)) (by decide) (ce_0 _ _ _ _ _ _) rfl inz_X9 6 (by decide) zq1_208 rfl dX9_exchange_34 ?_
  refine gz_aload_n K dX9_exchange_37 1 rfl ?_
  refine gz_get K (v := .ref (ad 17)) (by decide) (ce_0 _ _ _ _ _ _) rfl inz_X9 6 (by decide) zq1_208 rfl dX9_exchange_38 ?_
  refine gz_callV K hex (c_X4_places K.2.2.2.2.2 K.2.2.1 (by unfold isS; decide) hp) cf_X4_places zq4_99 (by decide) (ce_17 _ _ _ _ _ _) rfl dX9_exchange_41 rfl rfl (Nat.le_of_ble_eq_true rfl) ⟨Nat.le_of_ble_eq_true rfl, Nat.le_of_ble_eq_true rfl⟩ ⟨Nat.le_of_ble_eq_true rfl, Nat.le_of_ble_eq_true rfl⟩ (Nat.le_of_ble_eq_true rfl) (Nat.le_of_ble_eq_true rfl) (fun _ _ h => h.elim) (fun r41 τ hp => ?_)
  obtain ⟨rfl, hp⟩ := hp
  refine gz_norm (st' := [.int r41, .ref (ad 17)]) (cells' := 2) (slots' := 12) rfl rfl rfl ?_
  refine gz_iload_n K dX9_exchange_44 0 rfl ?_
  refine gz_callS K hex (c_X3_then K.2.2.2.2.2 K.2.2.1 hp) cf_X3_then zq4_106 dX9_exchange_45 rfl rfl (Nat.le_of_ble_eq_true rfl) ⟨Nat.le_of_ble_eq_true rfl, Nat.le_of_ble_eq_true rfl⟩ ⟨Nat.le_of_ble_eq_true rfl, Nat.le_of_ble_eq_true rfl⟩ (Nat.le_of_ble_eq_true rfl) (Nat.le_of_ble_eq_true rfl) (fun _ _ h => h.elim) (fun r45 τ hp => ?_)
  obtain ⟨rfl, hp⟩ := hp
  refine gz_norm (st' := [.int r45, .ref (ad 17)]) (cells' := 2) (slots' := 12) rfl rfl rfl ?_
  refine gz_callV K hex (c_X4_arrange K.2.2.2.2.2 K.2.2.1 (by unfold isS; decide) hp) cf_X4_arrange zq4_107 (by decide) (ce_17 _ _ _ _ _ _) rfl dX9_exchange_48 rfl rfl (Nat.le_of_ble_eq_true rfl) ⟨Nat.le_of_ble_eq_true rfl, Nat.le_of_ble_eq_true rfl⟩ ⟨Nat.le_of_ble_eq_true rfl, Nat.le_of_ble_eq_true rfl⟩ (Nat.le_of_ble_eq_true rfl) (Nat.le_of_ble_eq_true rfl) (fun _ _ h => h.elim) (fun _ τ48 hp => ?_)
  refine gz_norm (st' := []) (cells' := 2) (slots' := 12) rfl rfl rfl ?_
  refine gz_aload_n K dX9_exchange_51 1 rfl ?_
  refine gz_iload_n K dX9_exchange_52 2 rfl ?_
  refine gz_callV K hex (c_X9_tokenOn K.2.2.2.2.2 K.2.2.1 hp) cf_X9_tokenOn zq4_119 (by decide) (ce_0 _ _ _ _ _ _) rfl dX9_exchange_53 rfl rfl (Nat.le_of_ble_eq_true rfl) ⟨Nat.le_of_ble_eq_true rfl, Nat.le_of_ble_eq_true rfl⟩ ⟨Nat.le_of_ble_eq_true rfl, Nat.le_of_ble_eq_true rfl⟩ (Nat.le_of_ble_eq_true rfl) (Nat.le_of_ble_eq_true rfl) (fun _ _ h => h.elim) (fun r53 τ hp => ?_)
  obtain ⟨rfl, hp⟩ := hp
  refine gz_norm (st' := [.int r53]) (cells' := 2) (slots' := 12) rfl rfl rfl ?_
  exact gz_iret K hr hp dX9_exchange_56 (Nat.le_of_ble_eq_true rfl) (Nat.le_of_ble_eq_true rfl)
set_option maxRecDepth 100000 in
set_option maxHeartbeats 4000000 in
theorem c_X9_token {l : Launch} {D : va_G} {ad : Nat → Nat} {ty : Nat → ClassId} (hl : l.stackTraces = false) (hj : ∀ i j, i < 68 → j < 68 → ad i = ad j → i = j) {σ : Dz} {x1 : Int32} {post : Int32 → Prop} {px : String → Prop} (hp : P_X9_token σ x1 post px) : Mz l D ad ty yX9_token cX9_token 2 (some .int) r_X9_token nI0 σ [.ref (ad 0), .int x1] (fun r τ => σ = τ ∧ post r) (fun E τ => σ = τ ∧ px E) := by
  refine mz_of (by decide) hl hj (Nat.le_of_ble_eq_true rfl) ?_
  intro p e s m args below meth c K hex hr
  unfold P_X9_token at hp
  show Gz p l e r_X9_token s m args below meth c D ad ty 2 0 0 (Ez below D ad ty nI0 (fun r τ => σ = τ ∧ post r) (fun E τ => σ = τ ∧ px E) args s 1 6) σ 0 [(0, .ref (ad 0)), (1, .int x1)] []
  refine gz_aload_n K dX9_token_0 0 rfl ?_
  refine gz_iload_n K dX9_token_1 1 rfl ?_
  refine gz_callV K hex (c_X9_checkPosition K.2.2.2.2.2 K.2.2.1 hp) cf_X9_checkPosition zq3_228 (by decide) (ce_0 _ _ _ _ _ _) rfl dX9_token_2 rfl rfl (Nat.le_of_ble_eq_true rfl) ⟨Nat.le_of_ble_eq_true rfl, Nat.le_of_ble_eq_true rfl⟩ ⟨Nat.le_of_ble_eq_true rfl, Nat.le_of_ble_eq_true rfl⟩ (Nat.le_of_ble_eq_true rfl) (Nat.le_of_ble_eq_true rfl) (fun _ _ h => ⟨h.1, h.2⟩) (fun _ τ hp => ?_)
  obtain ⟨rfl, hp⟩ := hp
  refine gz_norm (st' := []) (cells' := 1) (slots' := 6) rfl rfl rfl ?_
  refine gz_aload_n K dX9_token_5 0 rfl ?_
  refine gz_iload_n K dX9_token_6 1 rfl ?_
  refine gz_callV K hex (c_X9_tokenOn K.2.2.2.2.2 K.2.2.1 hp) cf_X9_tokenOn zq4_119 (by decide) (ce_0 _ _ _ _ _ _) rfl dX9_token_7 rfl rfl (Nat.le_of_ble_eq_true rfl) ⟨Nat.le_of_ble_eq_true rfl, Nat.le_of_ble_eq_true rfl⟩ ⟨Nat.le_of_ble_eq_true rfl, Nat.le_of_ble_eq_true rfl⟩ (Nat.le_of_ble_eq_true rfl) (Nat.le_of_ble_eq_true rfl) (fun _ _ h => h.elim) (fun r7 τ hp => ?_)
  obtain ⟨rfl, hp⟩ := hp
  refine gz_norm (st' := [.int r7]) (cells' := 1) (slots' := 6) rfl rfl rfl ?_
  exact gz_iret K hr ⟨rfl, hp⟩ dX9_token_10 (Nat.le_of_ble_eq_true rfl) (Nat.le_of_ble_eq_true rfl)
set_option maxRecDepth 100000 in
set_option maxHeartbeats 4000000 in
theorem c_X9_currentTable {l : Launch} {D : va_G} {ad : Nat → Nat} {ty : Nat → ClassId} (hl : l.stackTraces = false) (hj : ∀ i j, i < 68 → j < 68 → ad i = ad j → i = j) {σ : Dz} {post : Dz → Prop} (hp : P_X9_currentTable σ post) : Mz l D ad ty yX9_currentTable cX9_currentTable 1 (some (.object "PermutationPuzzle$DepthTable")) r_X9_currentTable (nR0 ad) σ [.ref (ad 0)] (fun r τ => r = 12 ∧ post τ) (fun _ _ => False) := by
  refine mz_of (by decide) hl hj (Nat.le_of_ble_eq_true rfl) ?_
  intro p e s m args below meth c K hex hr
  unfold P_X9_currentTable at hp
  show Gz p l e r_X9_currentTable s m args below meth c D ad ty 1 0 0 (Ez below D ad ty (nR0 ad) (fun r τ => r = 12 ∧ post τ) (fun _ _ => False) args s 0 0) σ 0 [(0, .ref (ad 0))] []
  refine gz_aload_n K dX9_currentTable_0 0 rfl ?_
  refine gz_get K (v := .int (gz_i σ 0 14)) (by decide) (ce_0 _ _ _ _ _ _) rfl inz_X9 14 (by decide) zq1_216 rfl dX9_currentTable_1 ?_
  refine gz_if_ne K 27 dX9_currentTable_4 (by decide) (fun h => ?_) (fun h => ?_)
  · have hp := hp.1 h
    refine gz_aload_n K dX9_currentTable_27 0 rfl ?_
    refine gz_get K (v := .ref (ad 12)) (by decide) (ce_0 _ _ _ _ _ _) rfl inz_X9 5 (by decide) zq1_207 rfl dX9_currentTable_28 ?_
    exact gz_aret K hr ⟨rfl, hp⟩ dX9_currentTable_31 (Nat.le_of_ble_eq_true rfl) (Nat.le_of_ble_eq_true rfl)
  · have hp := hp.2 h
    refine gz_aload_n K dX9_currentTable_7 0 rfl ?_
    refine gz_get K (v := .ref (ad 12)) (by decide) (ce_0 _ _ _ _ _ _) rfl inz_X9 5 (by decide) zq1_207 rfl dX9_currentTable_8 ?_
    refine gz_aload_n K dX9_currentTable_11 0 rfl ?_
    refine gz_get K (v := .ref (ad 17)) (by decide) (ce_0 _ _ _ _ _ _) rfl inz_X9 6 (by decide) zq1_208 rfl dX9_currentTable_12 ?_
    refine gz_aload_n K dX9_currentTable_15 0 rfl ?_
    refine gz_get K (v := .int (gz_i σ 0 11)) (by decide) (ce_0 _ _ _ _ _ _) rfl inz_X9 11 (by decide) zq1_213 rfl dX9_currentTable_16 ?_
    refine gz_callV K hex (c_X2_build K.2.2.2.2.2 K.2.2.1 (by unfold isS; decide) hp) cf_X2_build zq2_22 (by decide) (ce_12 _ _ _ _ _ _) rfl dX9_currentTable_19 rfl rfl (Nat.le_of_ble_eq_true rfl) ⟨Nat.le_of_ble_eq_true rfl, Nat.le_of_ble_eq_true rfl⟩ ⟨Nat.le_of_ble_eq_true rfl, Nat.le_of_ble_eq_true rfl⟩ (Nat.le_of_ble_eq_true rfl) (Nat.le_of_ble_eq_true rfl) (fun _ _ h => h.elim) (fun _ τ19 hp => ?_)
    refine gz_norm (st' := []) (cells' := 0) (slots' := 0) rfl rfl rfl ?_
    refine gz_aload_n K dX9_currentTable_22 0 rfl ?_
    refine gz_iconst K (v := (1 : Int32)) dX9_currentTable_23 (by decide) ?_
    refine gz_put K (x := (1 : Int32)) (by decide) (ce_0 _ _ _ _ _ _) rfl inz_X9 tyX9 tyX9_ok nmX9 14 (by decide) zq1_216 rfl (tyX9_ok _ (by decide)) rfl rfl (Nat.le_of_ble_eq_true rfl) peX9_14 dX9_currentTable_24 ?_
    refine gz_aload_n K dX9_currentTable_27 0 rfl ?_
    refine gz_get K (v := .ref (ad 12)) (by decide) (ce_0 _ _ _ _ _ _) rfl inz_X9 5 (by decide) zq1_207 rfl dX9_currentTable_28 ?_
    exact gz_aret K hr ⟨rfl, hp⟩ dX9_currentTable_31 (Nat.le_of_ble_eq_true rfl) (Nat.le_of_ble_eq_true rfl)
set_option maxRecDepth 100000 in
set_option maxHeartbeats 4000000 in
theorem c_X9_presentDepth {l : Launch} {D : va_G} {ad : Nat → Nat} {ty : Nat → ClassId} (hl : l.stackTraces = false) (hj : ∀ i j, i < 68 → j < 68 → ad i = ad j → i = j) {σ : Dz} {post : Int32 → Dz → Prop} {px : String → Dz → Prop} (hp : P_X9_presentDepth σ post px) : Mz l D ad ty yX9_presentDepth cX9_presentDepth 2 (some .int) r_X9_presentDepth nI0 σ [.ref (ad 0)] post px := by
  refine mz_of (by decide) hl hj (Nat.le_of_ble_eq_true rfl) ?_
  intro p e s m args below meth c K hex hr
  unfold P_X9_presentDepth at hp
  show Gz p l e r_X9_presentDepth s m args below meth c D ad ty 2 0 0 (Ez below D ad ty nI0 post px args s 1 6) σ 0 [(0, .ref (ad 0))] []
  refine gz_aload_n K dX9_presentDepth_0 0 rfl ?_
  refine gz_callV K hex (c_X9_currentTable K.2.2.2.2.2 K.2.2.1 hp) cf_X9_currentTable zq2_18 (by decide) (ce_0 _ _ _ _ _ _) rfl dX9_presentDepth_1 rfl rfl (Nat.le_of_ble_eq_true rfl) ⟨Nat.le_of_ble_eq_true rfl, Nat.le_of_ble_eq_true rfl⟩ ⟨Nat.le_of_ble_eq_true rfl, Nat.le_of_ble_eq_true rfl⟩ (Nat.le_of_ble_eq_true rfl) (Nat.le_of_ble_eq_true rfl) (fun _ _ h => h.elim) (fun r1 τ1 hp => ?_)
  obtain ⟨rfl, hp⟩ := hp
  refine gz_norm (st' := [.ref (ad 12)]) (cells' := 0) (slots' := 0) rfl rfl rfl ?_
  refine gz_aload_n K dX9_presentDepth_4 0 rfl ?_
  refine gz_get K (v := .ref (ad 17)) (by decide) (ce_0 _ _ _ _ _ _) rfl inz_X9 6 (by decide) zq1_208 rfl dX9_presentDepth_5 ?_
  refine gz_callV K hex (c_X4_places K.2.2.2.2.2 K.2.2.1 (by unfold isS; decide) hp) cf_X4_places zq4_99 (by decide) (ce_17 _ _ _ _ _ _) rfl dX9_presentDepth_8 rfl rfl (Nat.le_of_ble_eq_true rfl) ⟨Nat.le_of_ble_eq_true rfl, Nat.le_of_ble_eq_true rfl⟩ ⟨Nat.le_of_ble_eq_true rfl, Nat.le_of_ble_eq_true rfl⟩ (Nat.le_of_ble_eq_true rfl) (Nat.le_of_ble_eq_true rfl) (fun _ _ h => h.elim) (fun r8 τ hp => ?_)
  obtain ⟨rfl, hp⟩ := hp
  refine gz_norm (st' := [.int r8, .ref (ad 12)]) (cells' := 0) (slots' := 0) rfl rfl rfl ?_
  refine gz_callV K hex (c_X2_levelOf K.2.2.2.2.2 K.2.2.1 hp) cf_X2_levelOf zq4_141 (by decide) (ce_12 _ _ _ _ _ _) rfl dX9_presentDepth_11 rfl rfl (Nat.le_of_ble_eq_true rfl) ⟨Nat.le_of_ble_eq_true rfl, Nat.le_of_ble_eq_true rfl⟩ ⟨Nat.le_of_ble_eq_true rfl, Nat.le_of_ble_eq_true rfl⟩ (Nat.le_of_ble_eq_true rfl) (Nat.le_of_ble_eq_true rfl) (fun _ _ h => h.elim) (fun r11 τ hp => ?_)
  obtain ⟨rfl, hp⟩ := hp
  refine gz_norm (st' := [.int r11]) (cells' := 0) (slots' := 0) rfl rfl rfl ?_
  refine gz_istore_n K [(1, .int r11), (0, .ref (ad 0))] dX9_presentDepth_14 (by decide) rfl ?_
  refine gz_iload_n K dX9_presentDepth_15 0 rfl ?_
  refine gz_iconst K (v := (-1 : Int32)) dX9_presentDepth_16 (by decide) ?_
  refine gz_icmp_ne K 31 dX9_presentDepth_17 (by decide) (fun h => ?_) (fun h => ?_)
  · have hp := hp.1 h
    refine gz_iload_n K dX9_presentDepth_31 0 rfl ?_
    exact gz_iret K hr hp dX9_presentDepth_32 (Nat.le_of_ble_eq_true rfl) (Nat.le_of_ble_eq_true rfl)
  · have hp := hp.2 h
    obtain ⟨sa, hsa⟩ := K.2.2.2.2.1.2.2.1 _ (List.mem_of_getElem? (l := zStr) (i := 16) rfl)
    exact gz_throw K hex true rfl xd_NoSuchElementException_0 xd_NoSuchElementException_1 xd_NoSuchElementException_2 xd_NoSuchElementException_5 (by decide) zq3_205 zq1_21 hsa xl_171 dX9_presentDepth_20 dX9_presentDepth_23 dX9_presentDepth_24 dX9_presentDepth_27 dX9_presentDepth_30 (Nat.le_of_ble_eq_true rfl) (Nat.le_of_ble_eq_true rfl) (Nat.le_of_ble_eq_true rfl) (Nat.le_of_ble_eq_true rfl) hp (Nat.le_of_ble_eq_true rfl) (Nat.le_of_ble_eq_true rfl)
set_option maxRecDepth 100000 in
set_option maxHeartbeats 4000000 in
theorem c_X9_depth {l : Launch} {D : va_G} {ad : Nat → Nat} {ty : Nat → ClassId} (hl : l.stackTraces = false) (hj : ∀ i j, i < 68 → j < 68 → ad i = ad j → i = j) {σ : Dz} {post : Int32 → Dz → Prop} {px : String → Dz → Prop} (hp : P_X9_depth σ post px) : Mz l D ad ty yX9_depth cX9_depth 1 (some .int) r_X9_depth nI0 σ [.ref (ad 0)] post px := by
  refine mz_of (by decide) hl hj (Nat.le_of_ble_eq_true rfl) ?_
  intro p e s m args below meth c K hex hr
  unfold P_X9_depth at hp
  show Gz p l e r_X9_depth s m args below meth c D ad ty 1 0 0 (Ez below D ad ty nI0 post px args s 1 6) σ 0 [(0, .ref (ad 0))] []
  refine gz_aload_n K dX9_depth_0 0 rfl ?_
  refine gz_callV K hex (c_X9_presentDepth K.2.2.2.2.2 K.2.2.1 hp) cf_X9_presentDepth zq4_137 (by decide) (ce_0 _ _ _ _ _ _) rfl dX9_depth_1 rfl rfl (Nat.le_of_ble_eq_true rfl) ⟨Nat.le_of_ble_eq_true rfl, Nat.le_of_ble_eq_true rfl⟩ ⟨Nat.le_of_ble_eq_true rfl, Nat.le_of_ble_eq_true rfl⟩ (Nat.le_of_ble_eq_true rfl) (Nat.le_of_ble_eq_true rfl) (fun _ _ h => h) (fun r1 τ1 hp => ?_)
  refine gz_norm (st' := [.int r1]) (cells' := 1) (slots' := 6) rfl rfl rfl ?_
  exact gz_iret K hr hp dX9_depth_4 (Nat.le_of_ble_eq_true rfl) (Nat.le_of_ble_eq_true rfl)
set_option maxRecDepth 100000 in
set_option maxHeartbeats 4000000 in
theorem c_X9_firstLetterTo {l : Launch} {D : va_G} {ad : Nat → Nat} {ty : Nat → ClassId} (hl : l.stackTraces = false) (hj : ∀ i j, i < 68 → j < 68 → ad i = ad j → i = j) {σ : Dz} {x1 : Int32} {x2 : Int32} {post : Int32 → Prop} (hp : P_X9_firstLetterTo σ x1 x2 post) : Mz l D ad ty yX9_firstLetterTo cX9_firstLetterTo 5 (some .int) r_X9_firstLetterTo nI0 σ [.ref (ad 0), .int x1, .int x2] (fun r τ => σ = τ ∧ post r) (fun _ _ => False) := by
  refine mz_of (by decide) hl hj (Nat.le_of_ble_eq_true rfl) ?_
  intro p e s m args below meth c K hex hr
  unfold P_X9_firstLetterTo at hp
  show Gz p l e r_X9_firstLetterTo s m args below meth c D ad ty 5 0 0 (Ez below D ad ty nI0 (fun r τ => σ = τ ∧ post r) (fun _ _ => False) args s 0 0) σ 0 [(0, .ref (ad 0)), (1, .int x1), (2, .int x2)] []
  refine gz_iconst K (v := (0 : Int32)) dX9_firstLetterTo_0 (by decide) ?_
  refine gz_istore_n K [(3, .int (0 : Int32)), (0, .ref (ad 0)), (1, .int x1), (2, .int x2)] dX9_firstLetterTo_1 (by decide) rfl ?_
  refine gz_sub [1, 2, 3, 0] rfl ?_
  have ll_2 : ∀ (n_2 : Nat) (y1 : Int32) (y2 : Int32) (y3 : Int32) , L_X9_firstLetterTo_2 σ post  n_2 y1 y2 y3 → Gz p l e r_X9_firstLetterTo s m args below meth c D ad ty 5 0 0 (Ez below D ad ty nI0 (fun r τ => σ = τ ∧ post r) (fun _ _ => False) args s 0 0) σ 2 [(0, .ref (ad 0)), (1, .int y1), (2, .int y2), (3, .int y3)] [] := by
    intro n_2; induction n_2 with
    | zero => intro y1 y2 y3 hp; exact False.elim hp
    | succ n_2 ih_2 =>
      intro y1 y2 y3 hp
      have hp : B_X9_firstLetterTo_2 σ post  (L_X9_firstLetterTo_2 σ post  n_2) y1 y2 y3 := hp
      unfold B_X9_firstLetterTo_2 at hp
      have bb_50 : ∀ (y1 : Int32) (y2 : Int32) (y3 : Int32) , B_X9_firstLetterTo_50 σ post (L_X9_firstLetterTo_2 σ post  n_2) y1 y2 y3 → Gz p l e r_X9_firstLetterTo s m args below meth c D ad ty 5 0 0 (Ez below D ad ty nI0 (fun r τ => σ = τ ∧ post r) (fun _ _ => False) args s 0 0) σ 50 [(0, .ref (ad 0)), (1, .int y1), (2, .int y2), (3, .int y3)] [] := by
        intro y1 y2 y3 hp
        unfold B_X9_firstLetterTo_50 at hp
        refine gz_iinc K (v := (y3 + 1)) [(3, .int (y3 + 1)), (0, .ref (ad 0)), (1, .int y1), (2, .int y2)] dX9_firstLetterTo_50 3 rfl (by first | rfl | decide) (by decide) rfl ?_
        refine gz_goto K 2 dX9_firstLetterTo_53 (by decide) ?_
        refine gz_sub [1, 2, 3, 0] rfl ?_
        exact ih_2 y1 y2 (y3 + 1)  hp
      refine gz_iload_n K dX9_firstLetterTo_2 3 rfl ?_
      refine gz_bipush K (v := (10 : Int32)) dX9_firstLetterTo_3 (by decide) ?_
      refine gz_icmp_ge K 56 dX9_firstLetterTo_5 (by decide) (fun h => ?_) (fun h => ?_)
      · have hp := hp.1 h
        refine gz_iconst K (v := (0 : Int32)) dX9_firstLetterTo_56 (by decide) ?_
        exact gz_iret K hr ⟨rfl, hp⟩ dX9_firstLetterTo_57 (Nat.le_of_ble_eq_true rfl) (Nat.le_of_ble_eq_true rfl)
      · have hp := hp.2 h
        refine gz_iload_n K dX9_firstLetterTo_8 1 rfl ?_
        refine gz_aload_n K dX9_firstLetterTo_9 0 rfl ?_
        refine gz_get K (v := .ref (ad 17)) (by decide) (ce_0 _ _ _ _ _ _) rfl inz_X9 6 (by decide) zq1_208 rfl dX9_firstLetterTo_10 ?_
        refine gz_iload_n K dX9_firstLetterTo_13 3 rfl ?_
        refine gz_callV K hex (c_X4_effectOfLetter K.2.2.2.2.2 K.2.2.1 (by unfold isS; decide) hp) cf_X4_effectOfLetter zq3_235 (by decide) (ce_17 _ _ _ _ _ _) rfl dX9_firstLetterTo_14 rfl rfl (Nat.le_of_ble_eq_true rfl) ⟨Nat.le_of_ble_eq_true rfl, Nat.le_of_ble_eq_true rfl⟩ ⟨Nat.le_of_ble_eq_true rfl, Nat.le_of_ble_eq_true rfl⟩ (Nat.le_of_ble_eq_true rfl) (Nat.le_of_ble_eq_true rfl) (fun _ _ h => h.elim) (fun r14 τ hp => ?_)
        obtain ⟨rfl, hp⟩ := hp
        refine gz_norm (st' := [.int r14, .int y1]) (cells' := 0) (slots' := 0) rfl rfl rfl ?_
        refine gz_callS K hex (c_X3_then K.2.2.2.2.2 K.2.2.1 hp) cf_X3_then zq4_106 dX9_firstLetterTo_17 rfl rfl (Nat.le_of_ble_eq_true rfl) ⟨Nat.le_of_ble_eq_true rfl, Nat.le_of_ble_eq_true rfl⟩ ⟨Nat.le_of_ble_eq_true rfl, Nat.le_of_ble_eq_true rfl⟩ (Nat.le_of_ble_eq_true rfl) (Nat.le_of_ble_eq_true rfl) (fun _ _ h => h.elim) (fun r17 τ hp => ?_)
        obtain ⟨rfl, hp⟩ := hp
        refine gz_norm (st' := [.int r17]) (cells' := 0) (slots' := 0) rfl rfl rfl ?_
        refine gz_istore K [(4, .int r17), (0, .ref (ad 0)), (1, .int y1), (2, .int y2), (3, .int y3)] dX9_firstLetterTo_20 (by decide) rfl ?_
        refine gz_aload_n K dX9_firstLetterTo_22 1 rfl ?_
        refine gz_get K (v := .ref (ad 17)) (by decide) (ce_0 _ _ _ _ _ _) rfl inz_X9 6 (by decide) zq1_208 rfl dX9_firstLetterTo_23 ?_
        refine gz_iload_n K dX9_firstLetterTo_26 4 rfl ?_
        refine gz_iconst K (v := (2 : Int32)) dX9_firstLetterTo_27 (by decide) ?_
        refine gz_idiv K dX9_firstLetterTo_28 (by decide) ?_
        refine gz_callV K hex (c_X4_isDefined K.2.2.2.2.2 K.2.2.1 (by unfold isS; decide) hp) cf_X4_isDefined zq3_233 (by decide) (ce_17 _ _ _ _ _ _) rfl dX9_firstLetterTo_29 rfl rfl (Nat.le_of_ble_eq_true rfl) ⟨Nat.le_of_ble_eq_true rfl, Nat.le_of_ble_eq_true rfl⟩ ⟨Nat.le_of_ble_eq_true rfl, Nat.le_of_ble_eq_true rfl⟩ (Nat.le_of_ble_eq_true rfl) (Nat.le_of_ble_eq_true rfl) (fun _ _ h => h.elim) (fun r29 τ hp => ?_)
        obtain ⟨rfl, hp⟩ := hp
        refine gz_norm (st' := [.int r29]) (cells' := 0) (slots' := 0) rfl rfl rfl ?_
        refine gz_if_eq K 50 dX9_firstLetterTo_32 (by decide) (fun h => ?_) (fun h => ?_)
        · have hp := hp.1 h
          refine gz_sub [1, 2, 3, 4] rfl ?_
          exact bb_50 y1 y2 y3  hp
        · have hp := hp.2 h
          refine gz_aload_n K dX9_firstLetterTo_35 1 rfl ?_
          refine gz_get K (v := .ref (ad 12)) (by decide) (ce_0 _ _ _ _ _ _) rfl inz_X9 5 (by decide) zq1_207 rfl dX9_firstLetterTo_36 ?_
          refine gz_iload K dX9_firstLetterTo_39 0 rfl ?_
          refine gz_callV K hex (c_X2_levelOf K.2.2.2.2.2 K.2.2.1 hp) cf_X2_levelOf zq4_141 (by decide) (ce_12 _ _ _ _ _ _) rfl dX9_firstLetterTo_41 rfl rfl (Nat.le_of_ble_eq_true rfl) ⟨Nat.le_of_ble_eq_true rfl, Nat.le_of_ble_eq_true rfl⟩ ⟨Nat.le_of_ble_eq_true rfl, Nat.le_of_ble_eq_true rfl⟩ (Nat.le_of_ble_eq_true rfl) (Nat.le_of_ble_eq_true rfl) (fun _ _ h => h.elim) (fun r41 τ hp => ?_)
          obtain ⟨rfl, hp⟩ := hp
          refine gz_norm (st' := [.int r41]) (cells' := 0) (slots' := 0) rfl rfl rfl ?_
          refine gz_iload_n K dX9_firstLetterTo_44 3 rfl ?_
          refine gz_icmp_ne K 50 dX9_firstLetterTo_45 (by decide) (fun h => ?_) (fun h => ?_)
          · have hp := hp.1 h
            refine gz_sub [1, 2, 3, 4] rfl ?_
            exact bb_50 y1 y2 y3  hp
          · have hp := hp.2 h
            refine gz_iload_n K dX9_firstLetterTo_48 4 rfl ?_
            exact gz_iret K hr ⟨rfl, hp⟩ dX9_firstLetterTo_49 (Nat.le_of_ble_eq_true rfl) (Nat.le_of_ble_eq_true rfl)
  obtain ⟨n, hp⟩ := hp
  exact ll_2 n x1 x2 (0 : Int32)  hp
set_option maxRecDepth 100000 in
set_option maxHeartbeats 4000000 in
theorem c_X9_solve {l : Launch} {D : va_G} {ad : Nat → Nat} {ty : Nat → ClassId} (hl : l.stackTraces = false) (hj : ∀ i j, i < 68 → j < 68 → ad i = ad j → i = j) {σ : Dz} {x1 : Int32} {post : Int32 → Dz → Prop} {px : String → Dz → Prop} (hp : P_X9_solve σ x1 post px) : Mz l D ad ty yX9_solve cX9_solve 6 (some .int) r_X9_solve nI0 σ [.ref (ad 0), .int x1] post px := by
  refine mz_of (by decide) hl hj (Nat.le_of_ble_eq_true rfl) ?_
  intro p e s m args below meth c K hex hr
  unfold P_X9_solve at hp
  show Gz p l e r_X9_solve s m args below meth c D ad ty 6 0 0 (Ez below D ad ty nI0 post px args s 2 12) σ 0 [(0, .ref (ad 0)), (1, .int x1)] []
  refine gz_iload_n K dX9_solve_0 1 rfl ?_
  refine gz_callS K hex (c_X9_checkSlot K.2.2.2.2.2 K.2.2.1 hp) cf_X9_checkSlot zq3_104 dX9_solve_1 rfl rfl (Nat.le_of_ble_eq_true rfl) ⟨Nat.le_of_ble_eq_true rfl, Nat.le_of_ble_eq_true rfl⟩ ⟨Nat.le_of_ble_eq_true rfl, Nat.le_of_ble_eq_true rfl⟩ (Nat.le_of_ble_eq_true rfl) (Nat.le_of_ble_eq_true rfl) (fun _ _ h => h.1 ▸ h.2) (fun _ τ hp => ?_)
  obtain ⟨rfl, hp⟩ := hp
  refine gz_norm (st' := []) (cells' := 1) (slots' := 6) rfl rfl rfl ?_
  refine gz_aload_n K dX9_solve_4 0 rfl ?_
  refine gz_callV K hex (c_X9_presentDepth K.2.2.2.2.2 K.2.2.1 hp) cf_X9_presentDepth zq4_137 (by decide) (ce_0 _ _ _ _ _ _) rfl dX9_solve_5 rfl rfl (Nat.le_of_ble_eq_true rfl) ⟨Nat.le_of_ble_eq_true rfl, Nat.le_of_ble_eq_true rfl⟩ ⟨Nat.le_of_ble_eq_true rfl, Nat.le_of_ble_eq_true rfl⟩ (Nat.le_of_ble_eq_true rfl) (Nat.le_of_ble_eq_true rfl) (fun _ _ h => h) (fun r5 τ5 hp => ?_)
  refine gz_norm (st' := [.int r5]) (cells' := 2) (slots' := 12) rfl rfl rfl ?_
  refine gz_istore_n K [(2, .int r5), (0, .ref (ad 0)), (1, .int x1)] dX9_solve_8 (by decide) rfl ?_
  refine gz_aload_n K dX9_solve_9 1 rfl ?_
  refine gz_get K (v := .ref (ad 39)) (by decide) (ce_0 _ _ _ _ _ _) rfl inz_X9 8 (by decide) zq1_210 rfl dX9_solve_10 ?_
  refine gz_callV K hex (c_X6_clear K.2.2.2.2.2 K.2.2.1 (by unfold isW; decide) hp) cf_X6_clear zq4_20 (by decide) (ce_39 _ _ _ _ _ _) rfl dX9_solve_13 rfl rfl (Nat.le_of_ble_eq_true rfl) ⟨Nat.le_of_ble_eq_true rfl, Nat.le_of_ble_eq_true rfl⟩ ⟨Nat.le_of_ble_eq_true rfl, Nat.le_of_ble_eq_true rfl⟩ (Nat.le_of_ble_eq_true rfl) (Nat.le_of_ble_eq_true rfl) (fun _ _ h => h.elim) (fun _ τ13 hp => ?_)
  refine gz_norm (st' := []) (cells' := 2) (slots' := 12) rfl rfl rfl ?_
  refine gz_aload_n K dX9_solve_16 1 rfl ?_
  refine gz_get K (v := .ref (ad 17)) (by decide) (ce_0 _ _ _ _ _ _) rfl inz_X9 6 (by decide) zq1_208 rfl dX9_solve_17 ?_
  refine gz_callV K hex (c_X4_places K.2.2.2.2.2 K.2.2.1 (by unfold isS; decide) hp) cf_X4_places zq4_99 (by decide) (ce_17 _ _ _ _ _ _) rfl dX9_solve_20 rfl rfl (Nat.le_of_ble_eq_true rfl) ⟨Nat.le_of_ble_eq_true rfl, Nat.le_of_ble_eq_true rfl⟩ ⟨Nat.le_of_ble_eq_true rfl, Nat.le_of_ble_eq_true rfl⟩ (Nat.le_of_ble_eq_true rfl) (Nat.le_of_ble_eq_true rfl) (fun _ _ h => h.elim) (fun r20 τ hp => ?_)
  obtain ⟨rfl, hp⟩ := hp
  refine gz_norm (st' := [.int r20]) (cells' := 2) (slots' := 12) rfl rfl rfl ?_
  refine gz_istore_n K [(3, .int r20), (2, .int r5), (0, .ref (ad 0)), (1, .int x1)] dX9_solve_23 (by decide) rfl ?_
  refine gz_iload_n K dX9_solve_24 1 rfl ?_
  refine gz_istore K [(4, .int r5), (3, .int r20), (2, .int r5), (0, .ref (ad 0)), (1, .int x1)] dX9_solve_25 (by decide) rfl ?_
  refine gz_sub [3, 4, 1, 0] rfl ?_
  have ll_27 : ∀ (n_27 : Nat) (σ : Dz) (y1 : Int32) (y3 : Int32) (y4 : Int32) , L_X9_solve_27 post px  n_27 σ y1 y3 y4 → Gz p l e r_X9_solve s m args below meth c D ad ty 6 2 12 (Ez below D ad ty nI0 post px args s 2 12) σ 27 [(0, .ref (ad 0)), (1, .int y1), (3, .int y3), (4, .int y4)] [] := by
    intro n_27; induction n_27 with
    | zero => intro σ y1 y3 y4 hp; exact False.elim hp
    | succ n_27 ih_27 =>
      intro σ y1 y3 y4 hp
      have hp : B_X9_solve_27 post px  (L_X9_solve_27 post px  n_27) σ y1 y3 y4 := hp
      unfold B_X9_solve_27 at hp
      refine gz_iload K dX9_solve_27 3 rfl ?_
      refine gz_if_le K 73 dX9_solve_29 (by decide) (fun h => ?_) (fun h => ?_)
      · have hp := hp.1 h
        refine gz_aload_n K dX9_solve_73 0 rfl ?_
        refine gz_iload_n K dX9_solve_74 1 rfl ?_
        refine gz_callV K hex (c_X9_keepDraft K.2.2.2.2.2 K.2.2.1 hp) cf_X9_keepDraft zq3_187 (by decide) (ce_0 _ _ _ _ _ _) rfl dX9_solve_75 rfl rfl (Nat.le_of_ble_eq_true rfl) ⟨Nat.le_of_ble_eq_true rfl, Nat.le_of_ble_eq_true rfl⟩ ⟨Nat.le_of_ble_eq_true rfl, Nat.le_of_ble_eq_true rfl⟩ (Nat.le_of_ble_eq_true rfl) (Nat.le_of_ble_eq_true rfl) (fun _ _ h => h.elim) (fun r75 τ75 hp => ?_)
        refine gz_norm (st' := [.int r75]) (cells' := 2) (slots' := 12) rfl rfl rfl ?_
        exact gz_iret K hr hp dX9_solve_78 (Nat.le_of_ble_eq_true rfl) (Nat.le_of_ble_eq_true rfl)
      · have hp := hp.2 h
        refine gz_aload_n K dX9_solve_32 0 rfl ?_
        refine gz_iload_n K dX9_solve_33 2 rfl ?_
        refine gz_iload K dX9_solve_34 3 rfl ?_
        refine gz_iconst K (v := (1 : Int32)) dX9_solve_36 (by decide) ?_
        refine gz_isub K dX9_solve_37 ?_
        refine gz_callV K hex (c_X9_firstLetterTo K.2.2.2.2.2 K.2.2.1 hp) cf_X9_firstLetterTo zq4_153 (by decide) (ce_0 _ _ _ _ _ _) rfl dX9_solve_38 rfl rfl (Nat.le_of_ble_eq_true rfl) ⟨Nat.le_of_ble_eq_true rfl, Nat.le_of_ble_eq_true rfl⟩ ⟨Nat.le_of_ble_eq_true rfl, Nat.le_of_ble_eq_true rfl⟩ (Nat.le_of_ble_eq_true rfl) (Nat.le_of_ble_eq_true rfl) (fun _ _ h => h.elim) (fun r38 τ hp => ?_)
        obtain ⟨rfl, hp⟩ := hp
        refine gz_norm (st' := [.int r38]) (cells' := 2) (slots' := 12) rfl rfl rfl ?_
        refine gz_istore K [(5, .int r38), (0, .ref (ad 0)), (1, .int y1), (3, .int y3), (4, .int y4)] dX9_solve_41 (by decide) rfl ?_
        refine gz_aload_n K dX9_solve_43 1 rfl ?_
        refine gz_get K (v := .ref (ad 39)) (by decide) (ce_0 _ _ _ _ _ _) rfl inz_X9 8 (by decide) zq1_210 rfl dX9_solve_44 ?_
        refine gz_iload K dX9_solve_47 0 rfl ?_
        refine gz_callV K hex (c_X6_add K.2.2.2.2.2 K.2.2.1 (by unfold isW; decide) hp) cf_X6_add zq4_157 (by decide) (ce_39 _ _ _ _ _ _) rfl dX9_solve_49 rfl rfl (Nat.le_of_ble_eq_true rfl) ⟨Nat.le_of_ble_eq_true rfl, Nat.le_of_ble_eq_true rfl⟩ ⟨Nat.le_of_ble_eq_true rfl, Nat.le_of_ble_eq_true rfl⟩ (Nat.le_of_ble_eq_true rfl) (Nat.le_of_ble_eq_true rfl) (fun _ _ h => h.elim) (fun r49 τ49 hp => ?_)
        refine gz_norm (st' := [.int r49]) (cells' := 2) (slots' := 12) rfl rfl rfl ?_
        refine gz_pop K dX9_solve_52 rfl ?_
        refine gz_iload_n K dX9_solve_53 3 rfl ?_
        refine gz_aload_n K dX9_solve_54 1 rfl ?_
        refine gz_get K (v := .ref (ad 17)) (by decide) (ce_0 _ _ _ _ _ _) rfl inz_X9 6 (by decide) zq1_208 rfl dX9_solve_55 ?_
        refine gz_iload K dX9_solve_58 0 rfl ?_
        refine gz_callV K hex (c_X4_effectOfLetter K.2.2.2.2.2 K.2.2.1 (by unfold isS; decide) hp) cf_X4_effectOfLetter zq3_235 (by decide) (ce_17 _ _ _ _ _ _) rfl dX9_solve_60 rfl rfl (Nat.le_of_ble_eq_true rfl) ⟨Nat.le_of_ble_eq_true rfl, Nat.le_of_ble_eq_true rfl⟩ ⟨Nat.le_of_ble_eq_true rfl, Nat.le_of_ble_eq_true rfl⟩ (Nat.le_of_ble_eq_true rfl) (Nat.le_of_ble_eq_true rfl) (fun _ _ h => h.elim) (fun r60 τ hp => ?_)
        obtain ⟨rfl, hp⟩ := hp
        refine gz_norm (st' := [.int r60, .int y3]) (cells' := 2) (slots' := 12) rfl rfl rfl ?_
        refine gz_callS K hex (c_X3_then K.2.2.2.2.2 K.2.2.1 hp) cf_X3_then zq4_106 dX9_solve_63 rfl rfl (Nat.le_of_ble_eq_true rfl) ⟨Nat.le_of_ble_eq_true rfl, Nat.le_of_ble_eq_true rfl⟩ ⟨Nat.le_of_ble_eq_true rfl, Nat.le_of_ble_eq_true rfl⟩ (Nat.le_of_ble_eq_true rfl) (Nat.le_of_ble_eq_true rfl) (fun _ _ h => h.elim) (fun r63 τ hp => ?_)
        obtain ⟨rfl, hp⟩ := hp
        refine gz_norm (st' := [.int r63]) (cells' := 2) (slots' := 12) rfl rfl rfl ?_
        refine gz_istore_n K [(3, .int r63), (5, .int r38), (0, .ref (ad 0)), (1, .int y1), (4, .int y4)] dX9_solve_66 (by decide) rfl ?_
        refine gz_iinc K (v := (y4 + (-1))) [(4, .int (y4 + (-1))), (3, .int r63), (5, .int r38), (0, .ref (ad 0)), (1, .int y1)] dX9_solve_67 4 rfl (by first | rfl | decide) (by decide) rfl ?_
        refine gz_goto K 27 dX9_solve_70 (by decide) ?_
        refine gz_sub [3, 4, 1, 0] rfl ?_
        exact ih_27 τ49 y1 r63 (y4 + (-1))  hp
  obtain ⟨n, hp⟩ := hp
  exact ll_27 n τ13 x1 r20 r5  hp
set_option maxRecDepth 100000 in
set_option maxHeartbeats 4000000 in
theorem c_X9_countAt {l : Launch} {D : va_G} {ad : Nat → Nat} {ty : Nat → ClassId} (hl : l.stackTraces = false) (hj : ∀ i j, i < 68 → j < 68 → ad i = ad j → i = j) {σ : Dz} {x1 : Int32} {post : Int32 → Dz → Prop} (hp : P_X9_countAt σ x1 post) : Mz l D ad ty yX9_countAt cX9_countAt 2 (some .int) r_X9_countAt nI0 σ [.ref (ad 0), .int x1] post (fun _ _ => False) := by
  refine mz_of (by decide) hl hj (Nat.le_of_ble_eq_true rfl) ?_
  intro p e s m args below meth c K hex hr
  unfold P_X9_countAt at hp
  show Gz p l e r_X9_countAt s m args below meth c D ad ty 2 0 0 (Ez below D ad ty nI0 post (fun _ _ => False) args s 0 0) σ 0 [(0, .ref (ad 0)), (1, .int x1)] []
  refine gz_aload_n K dX9_countAt_0 0 rfl ?_
  refine gz_callV K hex (c_X9_currentTable K.2.2.2.2.2 K.2.2.1 hp) cf_X9_currentTable zq2_18 (by decide) (ce_0 _ _ _ _ _ _) rfl dX9_countAt_1 rfl rfl (Nat.le_of_ble_eq_true rfl) ⟨Nat.le_of_ble_eq_true rfl, Nat.le_of_ble_eq_true rfl⟩ ⟨Nat.le_of_ble_eq_true rfl, Nat.le_of_ble_eq_true rfl⟩ (Nat.le_of_ble_eq_true rfl) (Nat.le_of_ble_eq_true rfl) (fun _ _ h => h.elim) (fun r1 τ1 hp => ?_)
  obtain ⟨rfl, hp⟩ := hp
  refine gz_norm (st' := [.ref (ad 12)]) (cells' := 0) (slots' := 0) rfl rfl rfl ?_
  refine gz_iload_n K dX9_countAt_4 1 rfl ?_
  refine gz_callV K hex (c_X2_sizeOfLevel K.2.2.2.2.2 K.2.2.1 hp) cf_X2_sizeOfLevel zq2_62 (by decide) (ce_12 _ _ _ _ _ _) rfl dX9_countAt_5 rfl rfl (Nat.le_of_ble_eq_true rfl) ⟨Nat.le_of_ble_eq_true rfl, Nat.le_of_ble_eq_true rfl⟩ ⟨Nat.le_of_ble_eq_true rfl, Nat.le_of_ble_eq_true rfl⟩ (Nat.le_of_ble_eq_true rfl) (Nat.le_of_ble_eq_true rfl) (fun _ _ h => h.elim) (fun r5 τ hp => ?_)
  obtain ⟨rfl, hp⟩ := hp
  refine gz_norm (st' := [.int r5]) (cells' := 0) (slots' := 0) rfl rfl rfl ?_
  exact gz_iret K hr hp dX9_countAt_8 (Nat.le_of_ble_eq_true rfl) (Nat.le_of_ble_eq_true rfl)
set_option maxRecDepth 100000 in
set_option maxHeartbeats 4000000 in
theorem c_X9_reachable {l : Launch} {D : va_G} {ad : Nat → Nat} {ty : Nat → ClassId} (hl : l.stackTraces = false) (hj : ∀ i j, i < 68 → j < 68 → ad i = ad j → i = j) {σ : Dz} {post : Int32 → Dz → Prop} (hp : P_X9_reachable σ post) : Mz l D ad ty yX9_reachable cX9_reachable 1 (some .int) r_X9_reachable nI0 σ [.ref (ad 0)] post (fun _ _ => False) := by
  refine mz_of (by decide) hl hj (Nat.le_of_ble_eq_true rfl) ?_
  intro p e s m args below meth c K hex hr
  unfold P_X9_reachable at hp
  show Gz p l e r_X9_reachable s m args below meth c D ad ty 1 0 0 (Ez below D ad ty nI0 post (fun _ _ => False) args s 0 0) σ 0 [(0, .ref (ad 0))] []
  refine gz_aload_n K dX9_reachable_0 0 rfl ?_
  refine gz_callV K hex (c_X9_currentTable K.2.2.2.2.2 K.2.2.1 hp) cf_X9_currentTable zq2_18 (by decide) (ce_0 _ _ _ _ _ _) rfl dX9_reachable_1 rfl rfl (Nat.le_of_ble_eq_true rfl) ⟨Nat.le_of_ble_eq_true rfl, Nat.le_of_ble_eq_true rfl⟩ ⟨Nat.le_of_ble_eq_true rfl, Nat.le_of_ble_eq_true rfl⟩ (Nat.le_of_ble_eq_true rfl) (Nat.le_of_ble_eq_true rfl) (fun _ _ h => h.elim) (fun r1 τ1 hp => ?_)
  obtain ⟨rfl, hp⟩ := hp
  refine gz_norm (st' := [.ref (ad 12)]) (cells' := 0) (slots' := 0) rfl rfl rfl ?_
  refine gz_callV K hex (c_X2_size K.2.2.2.2.2 K.2.2.1 hp) cf_X2_size zq2_70 (by decide) (ce_12 _ _ _ _ _ _) rfl dX9_reachable_4 rfl rfl (Nat.le_of_ble_eq_true rfl) ⟨Nat.le_of_ble_eq_true rfl, Nat.le_of_ble_eq_true rfl⟩ ⟨Nat.le_of_ble_eq_true rfl, Nat.le_of_ble_eq_true rfl⟩ (Nat.le_of_ble_eq_true rfl) (Nat.le_of_ble_eq_true rfl) (fun _ _ h => h.elim) (fun r4 τ hp => ?_)
  obtain ⟨rfl, hp⟩ := hp
  refine gz_norm (st' := [.int r4]) (cells' := 0) (slots' := 0) rfl rfl rfl ?_
  exact gz_iret K hr hp dX9_reachable_7 (Nat.le_of_ble_eq_true rfl) (Nat.le_of_ble_eq_true rfl)
set_option maxRecDepth 100000 in
set_option maxHeartbeats 4000000 in
theorem c_X9_greatestDepth {l : Launch} {D : va_G} {ad : Nat → Nat} {ty : Nat → ClassId} (hl : l.stackTraces = false) (hj : ∀ i j, i < 68 → j < 68 → ad i = ad j → i = j) {σ : Dz} {post : Int32 → Dz → Prop} (hp : P_X9_greatestDepth σ post) : Mz l D ad ty yX9_greatestDepth cX9_greatestDepth 1 (some .int) r_X9_greatestDepth nI0 σ [.ref (ad 0)] post (fun _ _ => False) := by
  refine mz_of (by decide) hl hj (Nat.le_of_ble_eq_true rfl) ?_
  intro p e s m args below meth c K hex hr
  unfold P_X9_greatestDepth at hp
  show Gz p l e r_X9_greatestDepth s m args below meth c D ad ty 1 0 0 (Ez below D ad ty nI0 post (fun _ _ => False) args s 0 0) σ 0 [(0, .ref (ad 0))] []
  refine gz_aload_n K dX9_greatestDepth_0 0 rfl ?_
  refine gz_callV K hex (c_X9_currentTable K.2.2.2.2.2 K.2.2.1 hp) cf_X9_currentTable zq2_18 (by decide) (ce_0 _ _ _ _ _ _) rfl dX9_greatestDepth_1 rfl rfl (Nat.le_of_ble_eq_true rfl) ⟨Nat.le_of_ble_eq_true rfl, Nat.le_of_ble_eq_true rfl⟩ ⟨Nat.le_of_ble_eq_true rfl, Nat.le_of_ble_eq_true rfl⟩ (Nat.le_of_ble_eq_true rfl) (Nat.le_of_ble_eq_true rfl) (fun _ _ h => h.elim) (fun r1 τ1 hp => ?_)
  obtain ⟨rfl, hp⟩ := hp
  refine gz_norm (st' := [.ref (ad 12)]) (cells' := 0) (slots' := 0) rfl rfl rfl ?_
  refine gz_callV K hex (c_X2_lastLevel K.2.2.2.2.2 K.2.2.1 hp) cf_X2_lastLevel zq2_78 (by decide) (ce_12 _ _ _ _ _ _) rfl dX9_greatestDepth_4 rfl rfl (Nat.le_of_ble_eq_true rfl) ⟨Nat.le_of_ble_eq_true rfl, Nat.le_of_ble_eq_true rfl⟩ ⟨Nat.le_of_ble_eq_true rfl, Nat.le_of_ble_eq_true rfl⟩ (Nat.le_of_ble_eq_true rfl) (Nat.le_of_ble_eq_true rfl) (fun _ _ h => h.elim) (fun r4 τ hp => ?_)
  obtain ⟨rfl, hp⟩ := hp
  refine gz_norm (st' := [.int r4]) (cells' := 0) (slots' := 0) rfl rfl rfl ?_
  exact gz_iret K hr hp dX9_greatestDepth_7 (Nat.le_of_ble_eq_true rfl) (Nat.le_of_ble_eq_true rfl)
set_option maxRecDepth 100000 in
set_option maxHeartbeats 4000000 in
theorem c_X9_averageDepth {l : Launch} {D : va_G} {ad : Nat → Nat} {ty : Nat → ClassId} (hl : l.stackTraces = false) (hj : ∀ i j, i < 68 → j < 68 → ad i = ad j → i = j) {σ : Dz} {post : UInt64 → Dz → Prop} (hp : P_X9_averageDepth σ post) : Mz l D ad ty yX9_averageDepth cX9_averageDepth 2 (some .double) r_X9_averageDepth nD0 σ [.ref (ad 0)] post (fun _ _ => False) := by
  refine mz_of (by decide) hl hj (Nat.le_of_ble_eq_true rfl) ?_
  intro p e s m args below meth c K hex hr
  unfold P_X9_averageDepth at hp
  show Gz p l e r_X9_averageDepth s m args below meth c D ad ty 2 0 0 (Ez below D ad ty nD0 post (fun _ _ => False) args s 0 0) σ 0 [(0, .ref (ad 0))] []
  refine gz_aload_n K dX9_averageDepth_0 0 rfl ?_
  refine gz_callV K hex (c_X9_currentTable K.2.2.2.2.2 K.2.2.1 hp) cf_X9_currentTable zq2_18 (by decide) (ce_0 _ _ _ _ _ _) rfl dX9_averageDepth_1 rfl rfl (Nat.le_of_ble_eq_true rfl) ⟨Nat.le_of_ble_eq_true rfl, Nat.le_of_ble_eq_true rfl⟩ ⟨Nat.le_of_ble_eq_true rfl, Nat.le_of_ble_eq_true rfl⟩ (Nat.le_of_ble_eq_true rfl) (Nat.le_of_ble_eq_true rfl) (fun _ _ h => h.elim) (fun r1 τ1 hp => ?_)
  obtain ⟨rfl, hp⟩ := hp
  refine gz_norm (st' := [.ref (ad 12)]) (cells' := 0) (slots' := 0) rfl rfl rfl ?_
  refine gz_astore_n K [(1, .ref (ad 12)), (0, .ref (ad 0))] dX9_averageDepth_4 (by decide) rfl ?_
  refine gz_aload_n K dX9_averageDepth_5 0 rfl ?_
  refine gz_callV K hex (c_X2_sumOfDepths K.2.2.2.2.2 K.2.2.1 hp) cf_X2_sumOfDepths zq2_86 (by decide) (ce_12 _ _ _ _ _ _) rfl dX9_averageDepth_6 rfl rfl (Nat.le_of_ble_eq_true rfl) ⟨Nat.le_of_ble_eq_true rfl, Nat.le_of_ble_eq_true rfl⟩ ⟨Nat.le_of_ble_eq_true rfl, Nat.le_of_ble_eq_true rfl⟩ (Nat.le_of_ble_eq_true rfl) (Nat.le_of_ble_eq_true rfl) (fun _ _ h => h.elim) (fun r6 τ hp => ?_)
  obtain ⟨rfl, hp⟩ := hp
  refine gz_norm (st' := [.int r6]) (cells' := 0) (slots' := 0) rfl rfl rfl ?_
  refine gz_i2d K dX9_averageDepth_9 ?_
  refine gz_aload_n K dX9_averageDepth_10 0 rfl ?_
  refine gz_callV K hex (c_X2_size K.2.2.2.2.2 K.2.2.1 hp) cf_X2_size zq2_70 (by decide) (ce_12 _ _ _ _ _ _) rfl dX9_averageDepth_11 rfl rfl (Nat.le_of_ble_eq_true rfl) ⟨Nat.le_of_ble_eq_true rfl, Nat.le_of_ble_eq_true rfl⟩ ⟨Nat.le_of_ble_eq_true rfl, Nat.le_of_ble_eq_true rfl⟩ (Nat.le_of_ble_eq_true rfl) (Nat.le_of_ble_eq_true rfl) (fun _ _ h => h.elim) (fun r11 τ hp => ?_)
  obtain ⟨rfl, hp⟩ := hp
  refine gz_norm (st' := [.int r11, .double (FP.i2d r6)]) (cells' := 0) (slots' := 0) rfl rfl rfl ?_
  refine gz_i2d K dX9_averageDepth_14 ?_
  obtain ⟨h, hp⟩ := hp
  refine gz_ddiv K dX9_averageDepth_15 h ?_
  exact gz_dret K hr hp dX9_averageDepth_16 (Nat.le_of_ble_eq_true rfl) (Nat.le_of_ble_eq_true rfl)
set_option maxRecDepth 100000 in
set_option maxHeartbeats 4000000 in
theorem c_X9_orbit {l : Launch} {D : va_G} {ad : Nat → Nat} {ty : Nat → ClassId} (hl : l.stackTraces = false) (hj : ∀ i j, i < 68 → j < 68 → ad i = ad j → i = j) {σ : Dz} {x1 : Int32} {post : Int32 → Prop} {px : String → Prop} (hp : P_X9_orbit σ x1 post px) : Mz l D ad ty yX9_orbit cX9_orbit 4 (some .int) r_X9_orbit nI0 σ [.ref (ad 0), .int x1] (fun r τ => σ = τ ∧ post r) (fun E τ => σ = τ ∧ px E) := by
  refine mz_of (by decide) hl hj (Nat.le_of_ble_eq_true rfl) ?_
  intro p e s m args below meth c K hex hr
  unfold P_X9_orbit at hp
  show Gz p l e r_X9_orbit s m args below meth c D ad ty 4 0 0 (Ez below D ad ty nI0 (fun r τ => σ = τ ∧ post r) (fun E τ => σ = τ ∧ px E) args s 1 6) σ 0 [(0, .ref (ad 0)), (1, .int x1)] []
  refine gz_aload_n K dX9_orbit_0 0 rfl ?_
  refine gz_iload_n K dX9_orbit_1 1 rfl ?_
  refine gz_callV K hex (c_X9_checkPosition K.2.2.2.2.2 K.2.2.1 hp) cf_X9_checkPosition zq3_228 (by decide) (ce_0 _ _ _ _ _ _) rfl dX9_orbit_2 rfl rfl (Nat.le_of_ble_eq_true rfl) ⟨Nat.le_of_ble_eq_true rfl, Nat.le_of_ble_eq_true rfl⟩ ⟨Nat.le_of_ble_eq_true rfl, Nat.le_of_ble_eq_true rfl⟩ (Nat.le_of_ble_eq_true rfl) (Nat.le_of_ble_eq_true rfl) (fun _ _ h => ⟨h.1, h.2⟩) (fun _ τ hp => ?_)
  obtain ⟨rfl, hp⟩ := hp
  refine gz_norm (st' := []) (cells' := 1) (slots' := 6) rfl rfl rfl ?_
  refine gz_iconst K (v := (1 : Int32)) dX9_orbit_5 (by decide) ?_
  refine gz_iload_n K dX9_orbit_6 1 rfl ?_
  refine gz_iconst K (v := (1 : Int32)) dX9_orbit_7 (by decide) ?_
  refine gz_isub K dX9_orbit_8 ?_
  refine gz_ishl K dX9_orbit_9 ?_
  refine gz_istore_n K [(2, .int ((1 : Int32) <<< ((x1 - (1 : Int32)) &&& 31))), (0, .ref (ad 0)), (1, .int x1)] dX9_orbit_10 (by decide) rfl ?_
  refine gz_iconst K (v := (1 : Int32)) dX9_orbit_11 (by decide) ?_
  refine gz_istore_n K [(3, .int (1 : Int32)), (2, .int ((1 : Int32) <<< ((x1 - (1 : Int32)) &&& 31))), (0, .ref (ad 0)), (1, .int x1)] dX9_orbit_12 (by decide) rfl ?_
  refine gz_sub [2, 1, 0] rfl ?_
  have ll_13 : ∀ (n_13 : Nat) (y2 : Int32) (y3 : Int32) , L_X9_orbit_13 σ post px  n_13 y2 y3 → Gz p l e r_X9_orbit s m args below meth c D ad ty 4 1 6 (Ez below D ad ty nI0 (fun r τ => σ = τ ∧ post r) (fun E τ => σ = τ ∧ px E) args s 1 6) σ 13 [(0, .ref (ad 0)), (2, .int y2), (3, .int y3)] [] := by
    intro n_13; induction n_13 with
    | zero => intro y2 y3 hp; exact False.elim hp
    | succ n_13 ih_13 =>
      intro y2 y3 hp
      have hp : B_X9_orbit_13 σ post px  (L_X9_orbit_13 σ post px  n_13) y2 y3 := hp
      unfold B_X9_orbit_13 at hp
      refine gz_iload_n K dX9_orbit_13 2 rfl ?_
      refine gz_aload_n K dX9_orbit_14 0 rfl ?_
      refine gz_get K (v := .int (gz_i σ 0 11)) (by decide) (ce_0 _ _ _ _ _ _) rfl inz_X9 11 (by decide) zq1_213 rfl dX9_orbit_15 ?_
      refine gz_icmp_ge K 36 dX9_orbit_18 (by decide) (fun h => ?_) (fun h => ?_)
      · have hp := hp.1 h
        refine gz_iload_n K dX9_orbit_36 1 rfl ?_
        exact gz_iret K hr ⟨rfl, hp⟩ dX9_orbit_37 (Nat.le_of_ble_eq_true rfl) (Nat.le_of_ble_eq_true rfl)
      · have hp := hp.2 h
        refine gz_aload_n K dX9_orbit_21 0 rfl ?_
        refine gz_get K (v := .ref (ad 17)) (by decide) (ce_0 _ _ _ _ _ _) rfl inz_X9 6 (by decide) zq1_208 rfl dX9_orbit_22 ?_
        refine gz_iload_n K dX9_orbit_25 1 rfl ?_
        refine gz_callV K hex (c_X4_spread K.2.2.2.2.2 K.2.2.1 (by unfold isS; decide) hp) cf_X4_spread zq4_165 (by decide) (ce_17 _ _ _ _ _ _) rfl dX9_orbit_26 rfl rfl (Nat.le_of_ble_eq_true rfl) ⟨Nat.le_of_ble_eq_true rfl, Nat.le_of_ble_eq_true rfl⟩ ⟨Nat.le_of_ble_eq_true rfl, Nat.le_of_ble_eq_true rfl⟩ (Nat.le_of_ble_eq_true rfl) (Nat.le_of_ble_eq_true rfl) (fun _ _ h => h.elim) (fun r26 τ hp => ?_)
        obtain ⟨rfl, hp⟩ := hp
        refine gz_norm (st' := [.int r26]) (cells' := 1) (slots' := 6) rfl rfl rfl ?_
        refine gz_istore_n K [(2, .int r26), (0, .ref (ad 0)), (3, .int y3)] dX9_orbit_29 (by decide) rfl ?_
        refine gz_iinc K (v := (y3 + 1)) [(3, .int (y3 + 1)), (2, .int r26), (0, .ref (ad 0))] dX9_orbit_30 2 rfl (by first | rfl | decide) (by decide) rfl ?_
        refine gz_goto K 13 dX9_orbit_33 (by decide) ?_
        refine gz_sub [2, 1, 0] rfl ?_
        exact ih_13 r26 (y3 + 1)  hp
  obtain ⟨n, hp⟩ := hp
  exact ll_13 n ((1 : Int32) <<< ((x1 - (1 : Int32)) &&& 31)) (1 : Int32)  hp
set_option maxRecDepth 100000 in
set_option maxHeartbeats 4000000 in
theorem c_X9_findCommutator {l : Launch} {D : va_G} {ad : Nat → Nat} {ty : Nat → ClassId} (hl : l.stackTraces = false) (hj : ∀ i j, i < 68 → j < 68 → ad i = ad j → i = j) {σ : Dz} {x1 : Int32} {x2 : Int32} {post : Int32 → Dz → Prop} {px : String → Dz → Prop} (hp : P_X9_findCommutator σ x1 x2 post px) : Mz l D ad ty yX9_findCommutator cX9_findCommutator 3 (some .int) r_X9_findCommutator nI0 σ [.ref (ad 0), .int x1, .int x2] post px := by
  refine mz_of (by decide) hl hj (Nat.le_of_ble_eq_true rfl) ?_
  intro p e s m args below meth c K hex hr
  unfold P_X9_findCommutator at hp
  show Gz p l e r_X9_findCommutator s m args below meth c D ad ty 3 0 0 (Ez below D ad ty nI0 post px args s 2 12) σ 0 [(0, .ref (ad 0)), (1, .int x1), (2, .int x2)] []
  refine gz_iload_n K dX9_findCommutator_0 1 rfl ?_
  refine gz_callS K hex (c_X9_checkSlot K.2.2.2.2.2 K.2.2.1 hp) cf_X9_checkSlot zq3_104 dX9_findCommutator_1 rfl rfl (Nat.le_of_ble_eq_true rfl) ⟨Nat.le_of_ble_eq_true rfl, Nat.le_of_ble_eq_true rfl⟩ ⟨Nat.le_of_ble_eq_true rfl, Nat.le_of_ble_eq_true rfl⟩ (Nat.le_of_ble_eq_true rfl) (Nat.le_of_ble_eq_true rfl) (fun _ _ h => h.1 ▸ h.2) (fun _ τ hp => ?_)
  obtain ⟨rfl, hp⟩ := hp
  refine gz_norm (st' := []) (cells' := 1) (slots' := 6) rfl rfl rfl ?_
  refine gz_aload_n K dX9_findCommutator_4 0 rfl ?_
  refine gz_get K (v := .ref (ad 9)) (by decide) (ce_0 _ _ _ _ _ _) rfl inz_X9 4 (by decide) zq1_206 rfl dX9_findCommutator_5 ?_
  refine gz_aload_n K dX9_findCommutator_8 0 rfl ?_
  refine gz_get K (v := .ref (ad 17)) (by decide) (ce_0 _ _ _ _ _ _) rfl inz_X9 6 (by decide) zq1_208 rfl dX9_findCommutator_9 ?_
  refine gz_iload_n K dX9_findCommutator_12 2 rfl ?_
  refine gz_aload_n K dX9_findCommutator_13 0 rfl ?_
  refine gz_get K (v := .ref (ad 39)) (by decide) (ce_0 _ _ _ _ _ _) rfl inz_X9 8 (by decide) zq1_210 rfl dX9_findCommutator_14 ?_
  refine gz_callV K hex (c_X0_find K.2.2.2.2.2 K.2.2.1 (by unfold isS; decide) (by unfold isW; decide) hp) cf_X0_find zq4_177 (by decide) (ce_9 _ _ _ _ _ _) rfl dX9_findCommutator_17 rfl rfl (Nat.le_of_ble_eq_true rfl) ⟨Nat.le_of_ble_eq_true rfl, Nat.le_of_ble_eq_true rfl⟩ ⟨Nat.le_of_ble_eq_true rfl, Nat.le_of_ble_eq_true rfl⟩ (Nat.le_of_ble_eq_true rfl) (Nat.le_of_ble_eq_true rfl) (fun _ _ h => h.elim) (fun r17 τ17 hp => ?_)
  refine gz_norm (st' := [.int r17]) (cells' := 1) (slots' := 6) rfl rfl rfl ?_
  refine gz_if_ne K 34 dX9_findCommutator_20 (by decide) (fun h => ?_) (fun h => ?_)
  · have hp := hp.1 h
    refine gz_aload_n K dX9_findCommutator_34 0 rfl ?_
    refine gz_iload_n K dX9_findCommutator_35 1 rfl ?_
    refine gz_callV K hex (c_X9_keepDraft K.2.2.2.2.2 K.2.2.1 hp) cf_X9_keepDraft zq3_187 (by decide) (ce_0 _ _ _ _ _ _) rfl dX9_findCommutator_36 rfl rfl (Nat.le_of_ble_eq_true rfl) ⟨Nat.le_of_ble_eq_true rfl, Nat.le_of_ble_eq_true rfl⟩ ⟨Nat.le_of_ble_eq_true rfl, Nat.le_of_ble_eq_true rfl⟩ (Nat.le_of_ble_eq_true rfl) (Nat.le_of_ble_eq_true rfl) (fun _ _ h => h.elim) (fun r36 τ36 hp => ?_)
    refine gz_norm (st' := [.int r36]) (cells' := 1) (slots' := 6) rfl rfl rfl ?_
    exact gz_iret K hr hp dX9_findCommutator_39 (Nat.le_of_ble_eq_true rfl) (Nat.le_of_ble_eq_true rfl)
  · have hp := hp.2 h
    obtain ⟨sa, hsa⟩ := K.2.2.2.2.1.2.2.1 _ (List.mem_of_getElem? (l := zStr) (i := 17) rfl)
    exact gz_throw K hex true rfl xd_NoSuchElementException_0 xd_NoSuchElementException_1 xd_NoSuchElementException_2 xd_NoSuchElementException_5 (by decide) zq3_205 zq1_21 hsa xl_171 dX9_findCommutator_23 dX9_findCommutator_26 dX9_findCommutator_27 dX9_findCommutator_30 dX9_findCommutator_33 (Nat.le_of_ble_eq_true rfl) (Nat.le_of_ble_eq_true rfl) (Nat.le_of_ble_eq_true rfl) (Nat.le_of_ble_eq_true rfl) hp (Nat.le_of_ble_eq_true rfl) (Nat.le_of_ble_eq_true rfl)
set_option maxRecDepth 100000 in
set_option maxHeartbeats 4000000 in
theorem c_X9_checkRow {l : Launch} {D : va_G} {ad : Nat → Nat} {ty : Nat → ClassId} (hl : l.stackTraces = false) (hj : ∀ i j, i < 68 → j < 68 → ad i = ad j → i = j) {σ : Dz} {x0 : Int32} {post : Prop} {px : String → Prop} (hp : P_X9_checkRow x0 post px) : Mz l D ad ty yX9_checkRow cX9_checkRow 1 none r_X9_checkRow nV0 σ [.int x0] (fun _ τ => σ = τ ∧ post) (fun E τ => σ = τ ∧ px E) := by
  refine mz_of (by decide) hl hj (Nat.le_of_ble_eq_true rfl) ?_
  intro p e s m args below meth c K hex hr
  unfold P_X9_checkRow at hp
  show Gz p l e r_X9_checkRow s m args below meth c D ad ty 1 0 0 (Ez below D ad ty nV0 (fun _ τ => σ = τ ∧ post) (fun E τ => σ = τ ∧ px E) args s 1 6) σ 0 [(0, .int x0)] []
  refine gz_iload_n K dX9_checkRow_0 0 rfl ?_
  refine gz_if_eq K 20 dX9_checkRow_1 (by decide) (fun h => ?_) (fun h => ?_)
  · have hp := hp.1 h
    exact gz_vret K hr ⟨rfl, hp⟩ dX9_checkRow_20 (Nat.le_of_ble_eq_true rfl) (Nat.le_of_ble_eq_true rfl)
  · have hp := hp.2 h
    refine gz_iload_n K dX9_checkRow_4 0 rfl ?_
    refine gz_iconst K (v := (1 : Int32)) dX9_checkRow_5 (by decide) ?_
    refine gz_icmp_eq K 20 dX9_checkRow_6 (by decide) (fun h => ?_) (fun h => ?_)
    · have hp := hp.1 h
      exact gz_vret K hr ⟨rfl, hp⟩ dX9_checkRow_20 (Nat.le_of_ble_eq_true rfl) (Nat.le_of_ble_eq_true rfl)
    · have hp := hp.2 h
      obtain ⟨sa, hsa⟩ := K.2.2.2.2.1.2.2.1 _ (List.mem_of_getElem? (l := zStr) (i := 18) rfl)
      exact gz_throw K hex true rfl xd_IndexOutOfBoundsException_0 xd_IndexOutOfBoundsException_1 xd_IndexOutOfBoundsException_2 xd_IndexOutOfBoundsException_5 (by decide) zq3_30 zq1_16 hsa xl_196 dX9_checkRow_9 dX9_checkRow_12 dX9_checkRow_13 dX9_checkRow_16 dX9_checkRow_19 (Nat.le_of_ble_eq_true rfl) (Nat.le_of_ble_eq_true rfl) (Nat.le_of_ble_eq_true rfl) (Nat.le_of_ble_eq_true rfl) ⟨rfl, hp⟩ (Nat.le_of_ble_eq_true rfl) (Nat.le_of_ble_eq_true rfl)
set_option maxRecDepth 100000 in
set_option maxHeartbeats 4000000 in
theorem c_X9_fillShares {l : Launch} {D : va_G} {ad : Nat → Nat} {ty : Nat → ClassId} (hl : l.stackTraces = false) (hj : ∀ i j, i < 68 → j < 68 → ad i = ad j → i = j) {σ : Dz} {x1 : Int32} {post : Int32 → Dz → Prop} {px : String → Dz → Prop} (hp : P_X9_fillShares σ x1 post px) : Mz l D ad ty yX9_fillShares cX9_fillShares 5 (some .int) r_X9_fillShares nI0 σ [.ref (ad 0), .int x1] post px := by
  refine mz_of (by decide) hl hj (Nat.le_of_ble_eq_true rfl) ?_
  intro p e s m args below meth c K hex hr
  unfold P_X9_fillShares at hp
  show Gz p l e r_X9_fillShares s m args below meth c D ad ty 5 0 0 (Ez below D ad ty nI0 post px args s 1 6) σ 0 [(0, .ref (ad 0)), (1, .int x1)] []
  refine gz_iload_n K dX9_fillShares_0 1 rfl ?_
  refine gz_callS K hex (c_X9_checkRow K.2.2.2.2.2 K.2.2.1 hp) cf_X9_checkRow zq4_216 dX9_fillShares_1 rfl rfl (Nat.le_of_ble_eq_true rfl) ⟨Nat.le_of_ble_eq_true rfl, Nat.le_of_ble_eq_true rfl⟩ ⟨Nat.le_of_ble_eq_true rfl, Nat.le_of_ble_eq_true rfl⟩ (Nat.le_of_ble_eq_true rfl) (Nat.le_of_ble_eq_true rfl) (fun _ _ h => h.1 ▸ h.2) (fun _ τ hp => ?_)
  obtain ⟨rfl, hp⟩ := hp
  refine gz_norm (st' := []) (cells' := 1) (slots' := 6) rfl rfl rfl ?_
  refine gz_aload_n K dX9_fillShares_4 0 rfl ?_
  refine gz_callV K hex (c_X9_currentTable K.2.2.2.2.2 K.2.2.1 hp) cf_X9_currentTable zq2_18 (by decide) (ce_0 _ _ _ _ _ _) rfl dX9_fillShares_5 rfl rfl (Nat.le_of_ble_eq_true rfl) ⟨Nat.le_of_ble_eq_true rfl, Nat.le_of_ble_eq_true rfl⟩ ⟨Nat.le_of_ble_eq_true rfl, Nat.le_of_ble_eq_true rfl⟩ (Nat.le_of_ble_eq_true rfl) (Nat.le_of_ble_eq_true rfl) (fun _ _ h => h.elim) (fun r5 τ5 hp => ?_)
  obtain ⟨rfl, hp⟩ := hp
  refine gz_norm (st' := [.ref (ad 12)]) (cells' := 1) (slots' := 6) rfl rfl rfl ?_
  refine gz_astore_n K [(2, .ref (ad 12)), (0, .ref (ad 0)), (1, .int x1)] dX9_fillShares_8 (by decide) rfl ?_
  refine gz_iconst K (v := (0 : Int32)) dX9_fillShares_9 (by decide) ?_
  refine gz_istore_n K [(3, .int (0 : Int32)), (2, .ref (ad 12)), (0, .ref (ad 0)), (1, .int x1)] dX9_fillShares_10 (by decide) rfl ?_
  refine gz_sub [2, 3, 1, 0] rfl ?_
  have ll_11 : ∀ (n_11 : Nat) (σ : Dz) (y1 : Int32) (y3 : Int32) , L_X9_fillShares_11 post px  n_11 σ y1 y3 → Gz p l e r_X9_fillShares s m args below meth c D ad ty 5 1 6 (Ez below D ad ty nI0 post px args s 1 6) σ 11 [(0, .ref (ad 0)), (1, .int y1), (2, .ref (ad 12)), (3, .int y3)] [] := by
    intro n_11; induction n_11 with
    | zero => intro σ y1 y3 hp; exact False.elim hp
    | succ n_11 ih_11 =>
      intro σ y1 y3 hp
      have hp : B_X9_fillShares_11 post px  (L_X9_fillShares_11 post px  n_11) σ y1 y3 := hp
      unfold B_X9_fillShares_11 at hp
      have bb_61 : ∀ (σ : Dz) (y1 : Int32) (y3 : Int32) , B_X9_fillShares_61 post px (L_X9_fillShares_11 post px  n_11) σ y1 y3 → Gz p l e r_X9_fillShares s m args below meth c D ad ty 5 1 6 (Ez below D ad ty nI0 post px args s 1 6) σ 61 [(0, .ref (ad 0)), (1, .int y1), (2, .ref (ad 12)), (3, .int y3)] [] := by
        intro σ y1 y3 hp
        unfold B_X9_fillShares_61 at hp
        refine gz_iinc K (v := (y3 + 1)) [(3, .int (y3 + 1)), (0, .ref (ad 0)), (1, .int y1), (2, .ref (ad 12))] dX9_fillShares_61 3 rfl (by first | rfl | decide) (by decide) rfl ?_
        refine gz_goto K 11 dX9_fillShares_64 (by decide) ?_
        refine gz_sub [1, 2, 3, 0] rfl ?_
        exact ih_11 σ y1 (y3 + 1)  hp
      refine gz_iload_n K dX9_fillShares_11 3 rfl ?_
      refine gz_bipush K (v := (24 : Int32)) dX9_fillShares_12 (by decide) ?_
      refine gz_icmp_ge K 67 dX9_fillShares_14 (by decide) (fun h => ?_) (fun h => ?_)
      · have hp := hp.1 h
        refine gz_iconst K (v := (0 : Int32)) dX9_fillShares_67 (by decide) ?_
        refine gz_aload_n K dX9_fillShares_68 2 rfl ?_
        refine gz_callV K hex (c_X2_lastLevel K.2.2.2.2.2 K.2.2.1 hp) cf_X2_lastLevel zq2_78 (by decide) (ce_12 _ _ _ _ _ _) rfl dX9_fillShares_69 rfl rfl (Nat.le_of_ble_eq_true rfl) ⟨Nat.le_of_ble_eq_true rfl, Nat.le_of_ble_eq_true rfl⟩ ⟨Nat.le_of_ble_eq_true rfl, Nat.le_of_ble_eq_true rfl⟩ (Nat.le_of_ble_eq_true rfl) (Nat.le_of_ble_eq_true rfl) (fun _ _ h => h.elim) (fun r69 τ hp => ?_)
        obtain ⟨rfl, hp⟩ := hp
        refine gz_norm (st' := [.int r69, .int (0 : Int32)]) (cells' := 1) (slots' := 6) rfl rfl rfl ?_
        refine gz_iconst K (v := (1 : Int32)) dX9_fillShares_72 (by decide) ?_
        refine gz_iadd K dX9_fillShares_73 ?_
        refine gz_bipush K (v := (24 : Int32)) dX9_fillShares_74 (by decide) ?_
        refine gz_isub K dX9_fillShares_76 ?_
        refine gz_mmax K zq4_220 zq4_221 zq1_23 zq4_222 dX9_fillShares_77 (Nat.le_of_ble_eq_true rfl) (Nat.le_of_ble_eq_true rfl) (Nat.le_of_ble_eq_true rfl) (Nat.le_of_ble_eq_true rfl) ?_
        exact gz_iret K hr hp dX9_fillShares_80 (Nat.le_of_ble_eq_true rfl) (Nat.le_of_ble_eq_true rfl)
      · have hp := hp.2 h
        refine gz_aload_n K dX9_fillShares_17 2 rfl ?_
        refine gz_iload_n K dX9_fillShares_18 3 rfl ?_
        refine gz_callV K hex (c_X2_sizeOfLevel K.2.2.2.2.2 K.2.2.1 hp) cf_X2_sizeOfLevel zq2_62 (by decide) (ce_12 _ _ _ _ _ _) rfl dX9_fillShares_19 rfl rfl (Nat.le_of_ble_eq_true rfl) ⟨Nat.le_of_ble_eq_true rfl, Nat.le_of_ble_eq_true rfl⟩ ⟨Nat.le_of_ble_eq_true rfl, Nat.le_of_ble_eq_true rfl⟩ (Nat.le_of_ble_eq_true rfl) (Nat.le_of_ble_eq_true rfl) (fun _ _ h => h.elim) (fun r19 τ hp => ?_)
        obtain ⟨rfl, hp⟩ := hp
        refine gz_norm (st' := [.int r19]) (cells' := 1) (slots' := 6) rfl rfl rfl ?_
        refine gz_istore K [(4, .int r19), (0, .ref (ad 0)), (1, .int y1), (2, .ref (ad 12)), (3, .int y3)] dX9_fillShares_22 (by decide) rfl ?_
        refine gz_iload_n K dX9_fillShares_24 2 rfl ?_
        refine gz_if_ne K 46 dX9_fillShares_25 (by decide) (fun h => ?_) (fun h => ?_)
        · have hp := hp.1 h
          refine gz_aload_n K dX9_fillShares_46 1 rfl ?_
          refine gz_get K (v := .ref (ad 42)) (by decide) (ce_0 _ _ _ _ _ _) rfl inz_X9 10 (by decide) zq1_212 rfl dX9_fillShares_47 ?_
          refine gz_iload_n K dX9_fillShares_50 4 rfl ?_
          refine gz_iload K dX9_fillShares_51 0 rfl ?_
          refine gz_i2d K dX9_fillShares_53 ?_
          refine gz_aload_n K dX9_fillShares_54 3 rfl ?_
          refine gz_callV K hex (c_X2_size K.2.2.2.2.2 K.2.2.1 hp) cf_X2_size zq2_70 (by decide) (ce_12 _ _ _ _ _ _) rfl dX9_fillShares_55 rfl rfl (Nat.le_of_ble_eq_true rfl) ⟨Nat.le_of_ble_eq_true rfl, Nat.le_of_ble_eq_true rfl⟩ ⟨Nat.le_of_ble_eq_true rfl, Nat.le_of_ble_eq_true rfl⟩ (Nat.le_of_ble_eq_true rfl) (Nat.le_of_ble_eq_true rfl) (fun _ _ h => h.elim) (fun r55 τ hp => ?_)
          obtain ⟨rfl, hp⟩ := hp
          refine gz_norm (st' := [.int r55, .double (FP.i2d r19), .int y3, .ref (ad 42)]) (cells' := 1) (slots' := 6) rfl rfl rfl ?_
          refine gz_i2d K dX9_fillShares_58 ?_
          obtain ⟨h, hp⟩ := hp
          refine gz_ddiv K dX9_fillShares_59 h ?_
          obtain ⟨h, hp⟩ := hp
          refine gz_dast K (x := (FP.ddiv (FP.i2d r19) (FP.i2d r55))) (by decide) (ce_42 ad ty) h dX9_fillShares_60 ?_
          refine gz_sub [1, 2, 3, 4] rfl ?_
          exact bb_61 (sz_d σ 42 (y3).toNatClampNeg (FP.ddiv (FP.i2d r19) (FP.i2d r55))) y1 y3  hp
        · have hp := hp.2 h
          refine gz_aload_n K dX9_fillShares_28 1 rfl ?_
          refine gz_get K (v := .ref (ad 41)) (by decide) (ce_0 _ _ _ _ _ _) rfl inz_X9 9 (by decide) zq1_211 rfl dX9_fillShares_29 ?_
          refine gz_iload_n K dX9_fillShares_32 4 rfl ?_
          refine gz_iload K dX9_fillShares_33 0 rfl ?_
          refine gz_i2f K dX9_fillShares_35 ?_
          refine gz_aload_n K dX9_fillShares_36 3 rfl ?_
          refine gz_callV K hex (c_X2_size K.2.2.2.2.2 K.2.2.1 hp) cf_X2_size zq2_70 (by decide) (ce_12 _ _ _ _ _ _) rfl dX9_fillShares_37 rfl rfl (Nat.le_of_ble_eq_true rfl) ⟨Nat.le_of_ble_eq_true rfl, Nat.le_of_ble_eq_true rfl⟩ ⟨Nat.le_of_ble_eq_true rfl, Nat.le_of_ble_eq_true rfl⟩ (Nat.le_of_ble_eq_true rfl) (Nat.le_of_ble_eq_true rfl) (fun _ _ h => h.elim) (fun r37 τ hp => ?_)
          obtain ⟨rfl, hp⟩ := hp
          refine gz_norm (st' := [.int r37, .float (FP.i2f r19), .int y3, .ref (ad 41)]) (cells' := 1) (slots' := 6) rfl rfl rfl ?_
          refine gz_i2f K dX9_fillShares_40 ?_
          obtain ⟨h, hp⟩ := hp
          refine gz_fdiv K dX9_fillShares_41 h ?_
          obtain ⟨h, hp⟩ := hp
          refine gz_fast K (x := (FP.fdiv (FP.i2f r19) (FP.i2f r37))) (by decide) (ce_41 ad ty) h dX9_fillShares_42 ?_
          refine gz_goto K 61 dX9_fillShares_43 (by decide) ?_
          refine gz_sub [1, 2, 3, 4] rfl ?_
          exact bb_61 (sz_f σ 41 (y3).toNatClampNeg (FP.fdiv (FP.i2f r19) (FP.i2f r37))) y1 y3  hp
  obtain ⟨n, hp⟩ := hp
  exact ll_11 n τ5 x1 (0 : Int32)  hp
set_option maxRecDepth 100000 in
set_option maxHeartbeats 4000000 in
theorem c_X9_checkElement {l : Launch} {D : va_G} {ad : Nat → Nat} {ty : Nat → ClassId} (hl : l.stackTraces = false) (hj : ∀ i j, i < 68 → j < 68 → ad i = ad j → i = j) {σ : Dz} {x0 : Int32} {x1 : Int32} {post : Prop} {px : String → Prop} (hp : P_X9_checkElement x0 x1 post px) : Mz l D ad ty yX9_checkElement cX9_checkElement 2 none r_X9_checkElement nV0 σ [.int x0, .int x1] (fun _ τ => σ = τ ∧ post) (fun E τ => σ = τ ∧ px E) := by
  refine mz_of (by decide) hl hj (Nat.le_of_ble_eq_true rfl) ?_
  intro p e s m args below meth c K hex hr
  unfold P_X9_checkElement at hp
  show Gz p l e r_X9_checkElement s m args below meth c D ad ty 2 0 0 (Ez below D ad ty nV0 (fun _ τ => σ = τ ∧ post) (fun E τ => σ = τ ∧ px E) args s 2 12) σ 0 [(0, .int x0), (1, .int x1)] []
  refine gz_iload_n K dX9_checkElement_0 0 rfl ?_
  refine gz_callS K hex (c_X9_checkRow K.2.2.2.2.2 K.2.2.1 hp) cf_X9_checkRow zq4_216 dX9_checkElement_1 rfl rfl (Nat.le_of_ble_eq_true rfl) ⟨Nat.le_of_ble_eq_true rfl, Nat.le_of_ble_eq_true rfl⟩ ⟨Nat.le_of_ble_eq_true rfl, Nat.le_of_ble_eq_true rfl⟩ (Nat.le_of_ble_eq_true rfl) (Nat.le_of_ble_eq_true rfl) (fun _ _ h => ⟨h.1, h.2⟩) (fun _ τ hp => ?_)
  obtain ⟨rfl, hp⟩ := hp
  refine gz_norm (st' := []) (cells' := 1) (slots' := 6) rfl rfl rfl ?_
  refine gz_iload_n K dX9_checkElement_4 1 rfl ?_
  refine gz_if_lt K 14 dX9_checkElement_5 (by decide) (fun h => ?_) (fun h => ?_)
  · have hp := hp.1 h
    obtain ⟨sa, hsa⟩ := K.2.2.2.2.1.2.2.1 _ (List.mem_of_getElem? (l := zStr) (i := 19) rfl)
    exact gz_throw K hex true rfl xd_IndexOutOfBoundsException_0 xd_IndexOutOfBoundsException_1 xd_IndexOutOfBoundsException_2 xd_IndexOutOfBoundsException_5 (by decide) zq3_30 zq1_16 hsa xl_196 dX9_checkElement_14 dX9_checkElement_17 dX9_checkElement_18 dX9_checkElement_21 dX9_checkElement_24 (Nat.le_of_ble_eq_true rfl) (Nat.le_of_ble_eq_true rfl) (Nat.le_of_ble_eq_true rfl) (Nat.le_of_ble_eq_true rfl) ⟨rfl, hp⟩ (Nat.le_of_ble_eq_true rfl) (Nat.le_of_ble_eq_true rfl)
  · have hp := hp.2 h
    refine gz_iload_n K dX9_checkElement_8 1 rfl ?_
    refine gz_bipush K (v := (24 : Int32)) dX9_checkElement_9 (by decide) ?_
    refine gz_icmp_lt K 25 dX9_checkElement_11 (by decide) (fun h => ?_) (fun h => ?_)
    · have hp := hp.1 h
      exact gz_vret K hr ⟨rfl, hp⟩ dX9_checkElement_25 (Nat.le_of_ble_eq_true rfl) (Nat.le_of_ble_eq_true rfl)
    · have hp := hp.2 h
      obtain ⟨sa, hsa⟩ := K.2.2.2.2.1.2.2.1 _ (List.mem_of_getElem? (l := zStr) (i := 19) rfl)
      exact gz_throw K hex true rfl xd_IndexOutOfBoundsException_0 xd_IndexOutOfBoundsException_1 xd_IndexOutOfBoundsException_2 xd_IndexOutOfBoundsException_5 (by decide) zq3_30 zq1_16 hsa xl_196 dX9_checkElement_14 dX9_checkElement_17 dX9_checkElement_18 dX9_checkElement_21 dX9_checkElement_24 (Nat.le_of_ble_eq_true rfl) (Nat.le_of_ble_eq_true rfl) (Nat.le_of_ble_eq_true rfl) (Nat.le_of_ble_eq_true rfl) ⟨rfl, hp⟩ (Nat.le_of_ble_eq_true rfl) (Nat.le_of_ble_eq_true rfl)
set_option maxRecDepth 100000 in
set_option maxHeartbeats 4000000 in
theorem c_X9_scaleFloat {l : Launch} {D : va_G} {ad : Nat → Nat} {ty : Nat → ClassId} (hl : l.stackTraces = false) (hj : ∀ i j, i < 68 → j < 68 → ad i = ad j → i = j) {σ : Dz} {x1 : Int32} {x2 : Int32} {post : Int32 → Dz → Prop} {px : String → Dz → Prop} (hp : P_X9_scaleFloat σ x1 x2 post px) : Mz l D ad ty yX9_scaleFloat cX9_scaleFloat 5 (some .int) r_X9_scaleFloat nI0 σ [.ref (ad 0), .int x1, .int x2] post px := by
  refine mz_of (by decide) hl hj (Nat.le_of_ble_eq_true rfl) ?_
  intro p e s m args below meth c K hex hr
  unfold P_X9_scaleFloat at hp
  have bb_22 : ∀ (σ : Dz) (y1 : Int32) (y3 : UInt32) (z0 : UInt32) , B_X9_scaleFloat_22 post px  σ y1 y3 z0 → Gz p l e r_X9_scaleFloat s m args below meth c D ad ty 5 0 0 (Ez below D ad ty nI0 post px args s 1 6) σ 22 [(0, .ref (ad 0)), (1, .int y1), (3, .float y3)] [.float z0] := by
    intro σ y1 y3 z0 hp
    unfold B_X9_scaleFloat_22 at hp
    refine gz_fstore K [(4, .float z0), (0, .ref (ad 0)), (1, .int y1), (3, .float y3)] dX9_scaleFloat_22 (by decide) rfl ?_
    refine gz_fload K dX9_scaleFloat_24 0 rfl ?_
    refine gz_ldcf_w K zq4_239 dX9_scaleFloat_26 ?_
    refine gz_fcmp K dX9_scaleFloat_29 ?_
    refine gz_if_le K 44 dX9_scaleFloat_30 (by decide) (fun h => ?_) (fun h => ?_)
    · have hp := hp.1 h
      refine gz_aload_n K dX9_scaleFloat_44 1 rfl ?_
      refine gz_get K (v := .ref (ad 41)) (by decide) (ce_0 _ _ _ _ _ _) rfl inz_X9 9 (by decide) zq1_211 rfl dX9_scaleFloat_45 ?_
      refine gz_iload_n K dX9_scaleFloat_48 2 rfl ?_
      refine gz_fload_n K dX9_scaleFloat_49 3 rfl ?_
      obtain ⟨h, hp⟩ := hp
      refine gz_fast K (x := y3) (by decide) (ce_41 ad ty) h dX9_scaleFloat_50 ?_
      refine gz_fload_n K dX9_scaleFloat_51 3 rfl ?_
      refine gz_f2i K dX9_scaleFloat_52 ?_
      exact gz_iret K hr hp dX9_scaleFloat_53 (Nat.le_of_ble_eq_true rfl) (Nat.le_of_ble_eq_true rfl)
    · have hp := hp.2 h
      obtain ⟨sa, hsa⟩ := K.2.2.2.2.1.2.2.1 _ (List.mem_of_getElem? (l := zStr) (i := 21) rfl)
      exact gz_throw K hex true rfl xd_ArithmeticException_0 xd_ArithmeticException_1 xd_ArithmeticException_2 xd_ArithmeticException_5 (by decide) zq3_184 zq1_20 hsa xl_162 dX9_scaleFloat_33 dX9_scaleFloat_36 dX9_scaleFloat_37 dX9_scaleFloat_40 dX9_scaleFloat_43 (Nat.le_of_ble_eq_true rfl) (Nat.le_of_ble_eq_true rfl) (Nat.le_of_ble_eq_true rfl) (Nat.le_of_ble_eq_true rfl) hp (Nat.le_of_ble_eq_true rfl) (Nat.le_of_ble_eq_true rfl)
  show Gz p l e r_X9_scaleFloat s m args below meth c D ad ty 5 0 0 (Ez below D ad ty nI0 post px args s 1 6) σ 0 [(0, .ref (ad 0)), (1, .int x1), (2, .int x2)] []
  refine gz_aload_n K dX9_scaleFloat_0 0 rfl ?_
  refine gz_get K (v := .ref (ad 41)) (by decide) (ce_0 _ _ _ _ _ _) rfl inz_X9 9 (by decide) zq1_211 rfl dX9_scaleFloat_1 ?_
  refine gz_iload_n K dX9_scaleFloat_4 1 rfl ?_
  obtain ⟨h, hp⟩ := hp
  refine gz_fald K (by decide) (ce_41 _ _ _ _ _ _) h dX9_scaleFloat_5 ?_
  refine gz_iload_n K dX9_scaleFloat_6 2 rfl ?_
  refine gz_i2f K dX9_scaleFloat_7 ?_
  obtain ⟨h, hp⟩ := hp
  refine gz_fmul K dX9_scaleFloat_8 h ?_
  refine gz_fstore_n K [(3, .float (FP.fmul (gz_f σ 41 (x1).toNatClampNeg) (FP.i2f x2))), (0, .ref (ad 0)), (1, .int x1), (2, .int x2)] dX9_scaleFloat_9 (by decide) rfl ?_
  refine gz_fload_n K dX9_scaleFloat_10 0 rfl ?_
  refine gz_fconst0 K dX9_scaleFloat_11 ?_
  refine gz_fcmp K dX9_scaleFloat_12 ?_
  refine gz_if_ge K 21 dX9_scaleFloat_13 (by decide) (fun h => ?_) (fun h => ?_)
  · have hp := hp.1 h
    refine gz_fload_n K dX9_scaleFloat_21 0 rfl ?_
    refine gz_sub [1, 2, 0] rfl ?_
    exact bb_22 σ x1 (FP.fmul (gz_f σ 41 (x1).toNatClampNeg) (FP.i2f x2)) (FP.fmul (gz_f σ 41 (x1).toNatClampNeg) (FP.i2f x2))  hp
  · have hp := hp.2 h
    refine gz_fload_n K dX9_scaleFloat_16 0 rfl ?_
    refine gz_fneg K dX9_scaleFloat_17 ?_
    refine gz_goto K 22 dX9_scaleFloat_18 (by decide) ?_
    refine gz_sub [1, 2, 0] rfl ?_
    exact bb_22 σ x1 (FP.fmul (gz_f σ 41 (x1).toNatClampNeg) (FP.i2f x2)) (FP.fneg (FP.fmul (gz_f σ 41 (x1).toNatClampNeg) (FP.i2f x2)))  hp
set_option maxRecDepth 100000 in
set_option maxHeartbeats 4000000 in
theorem c_X9_scaleDouble {l : Launch} {D : va_G} {ad : Nat → Nat} {ty : Nat → ClassId} (hl : l.stackTraces = false) (hj : ∀ i j, i < 68 → j < 68 → ad i = ad j → i = j) {σ : Dz} {x1 : Int32} {x2 : Int32} {post : Int32 → Dz → Prop} {px : String → Dz → Prop} (hp : P_X9_scaleDouble σ x1 x2 post px) : Mz l D ad ty yX9_scaleDouble cX9_scaleDouble 7 (some .int) r_X9_scaleDouble nI0 σ [.ref (ad 0), .int x1, .int x2] post px := by
  refine mz_of (by decide) hl hj (Nat.le_of_ble_eq_true rfl) ?_
  intro p e s m args below meth c K hex hr
  unfold P_X9_scaleDouble at hp
  have bb_22 : ∀ (σ : Dz) (y1 : Int32) (y3 : UInt64) (z0 : UInt64) , B_X9_scaleDouble_22 post px  σ y1 y3 z0 → Gz p l e r_X9_scaleDouble s m args below meth c D ad ty 7 0 0 (Ez below D ad ty nI0 post px args s 1 6) σ 22 [(0, .ref (ad 0)), (1, .int y1), (3, .double y3)] [.double z0] := by
    intro σ y1 y3 z0 hp
    unfold B_X9_scaleDouble_22 at hp
    refine gz_dstore K [(5, .double z0), (0, .ref (ad 0)), (1, .int y1), (3, .double y3)] dX9_scaleDouble_22 (by decide) rfl ?_
    refine gz_dload K dX9_scaleDouble_24 0 rfl ?_
    refine gz_ldc2d K zq5_5 dX9_scaleDouble_26 ?_
    refine gz_dcmp K dX9_scaleDouble_29 ?_
    refine gz_if_le K 44 dX9_scaleDouble_30 (by decide) (fun h => ?_) (fun h => ?_)
    · have hp := hp.1 h
      refine gz_aload_n K dX9_scaleDouble_44 1 rfl ?_
      refine gz_get K (v := .ref (ad 42)) (by decide) (ce_0 _ _ _ _ _ _) rfl inz_X9 10 (by decide) zq1_212 rfl dX9_scaleDouble_45 ?_
      refine gz_iload_n K dX9_scaleDouble_48 2 rfl ?_
      refine gz_dload_n K dX9_scaleDouble_49 3 rfl ?_
      obtain ⟨h, hp⟩ := hp
      refine gz_dast K (x := y3) (by decide) (ce_42 ad ty) h dX9_scaleDouble_50 ?_
      refine gz_dload_n K dX9_scaleDouble_51 3 rfl ?_
      refine gz_d2i K dX9_scaleDouble_52 ?_
      exact gz_iret K hr hp dX9_scaleDouble_53 (Nat.le_of_ble_eq_true rfl) (Nat.le_of_ble_eq_true rfl)
    · have hp := hp.2 h
      obtain ⟨sa, hsa⟩ := K.2.2.2.2.1.2.2.1 _ (List.mem_of_getElem? (l := zStr) (i := 21) rfl)
      exact gz_throw K hex true rfl xd_ArithmeticException_0 xd_ArithmeticException_1 xd_ArithmeticException_2 xd_ArithmeticException_5 (by decide) zq3_184 zq1_20 hsa xl_162 dX9_scaleDouble_33 dX9_scaleDouble_36 dX9_scaleDouble_37 dX9_scaleDouble_40 dX9_scaleDouble_43 (Nat.le_of_ble_eq_true rfl) (Nat.le_of_ble_eq_true rfl) (Nat.le_of_ble_eq_true rfl) (Nat.le_of_ble_eq_true rfl) hp (Nat.le_of_ble_eq_true rfl) (Nat.le_of_ble_eq_true rfl)
  show Gz p l e r_X9_scaleDouble s m args below meth c D ad ty 7 0 0 (Ez below D ad ty nI0 post px args s 1 6) σ 0 [(0, .ref (ad 0)), (1, .int x1), (2, .int x2)] []
  refine gz_aload_n K dX9_scaleDouble_0 0 rfl ?_
  refine gz_get K (v := .ref (ad 42)) (by decide) (ce_0 _ _ _ _ _ _) rfl inz_X9 10 (by decide) zq1_212 rfl dX9_scaleDouble_1 ?_
  refine gz_iload_n K dX9_scaleDouble_4 1 rfl ?_
  obtain ⟨h, hp⟩ := hp
  refine gz_dald K (by decide) (ce_42 _ _ _ _ _ _) h dX9_scaleDouble_5 ?_
  refine gz_iload_n K dX9_scaleDouble_6 2 rfl ?_
  refine gz_i2d K dX9_scaleDouble_7 ?_
  obtain ⟨h, hp⟩ := hp
  refine gz_dmul K dX9_scaleDouble_8 h ?_
  refine gz_dstore_n K [(3, .double (FP.dmul (gz_d σ 42 (x1).toNatClampNeg) (FP.i2d x2))), (0, .ref (ad 0)), (1, .int x1), (2, .int x2)] dX9_scaleDouble_9 (by decide) rfl ?_
  refine gz_dload_n K dX9_scaleDouble_10 0 rfl ?_
  refine gz_dconst0 K dX9_scaleDouble_11 ?_
  refine gz_dcmp K dX9_scaleDouble_12 ?_
  refine gz_if_ge K 21 dX9_scaleDouble_13 (by decide) (fun h => ?_) (fun h => ?_)
  · have hp := hp.1 h
    refine gz_dload_n K dX9_scaleDouble_21 0 rfl ?_
    refine gz_sub [1, 2, 0] rfl ?_
    exact bb_22 σ x1 (FP.dmul (gz_d σ 42 (x1).toNatClampNeg) (FP.i2d x2)) (FP.dmul (gz_d σ 42 (x1).toNatClampNeg) (FP.i2d x2))  hp
  · have hp := hp.2 h
    refine gz_dload_n K dX9_scaleDouble_16 0 rfl ?_
    refine gz_dneg K dX9_scaleDouble_17 ?_
    refine gz_goto K 22 dX9_scaleDouble_18 (by decide) ?_
    refine gz_sub [1, 2, 0] rfl ?_
    exact bb_22 σ x1 (FP.dmul (gz_d σ 42 (x1).toNatClampNeg) (FP.i2d x2)) (FP.dneg (FP.dmul (gz_d σ 42 (x1).toNatClampNeg) (FP.i2d x2)))  hp
set_option maxRecDepth 100000 in
set_option maxHeartbeats 4000000 in
theorem c_X9_scale {l : Launch} {D : va_G} {ad : Nat → Nat} {ty : Nat → ClassId} (hl : l.stackTraces = false) (hj : ∀ i j, i < 68 → j < 68 → ad i = ad j → i = j) {σ : Dz} {x1 : Int32} {x2 : Int32} {x3 : Int32} {post : Int32 → Dz → Prop} {px : String → Dz → Prop} (hp : P_X9_scale σ x1 x2 x3 post px) : Mz l D ad ty yX9_scale cX9_scale 4 (some .int) r_X9_scale nI0 σ [.ref (ad 0), .int x1, .int x2, .int x3] post px := by
  refine mz_of (by decide) hl hj (Nat.le_of_ble_eq_true rfl) ?_
  intro p e s m args below meth c K hex hr
  unfold P_X9_scale at hp
  show Gz p l e r_X9_scale s m args below meth c D ad ty 4 0 0 (Ez below D ad ty nI0 post px args s 3 18) σ 0 [(0, .ref (ad 0)), (1, .int x1), (2, .int x2), (3, .int x3)] []
  refine gz_iload_n K dX9_scale_0 1 rfl ?_
  refine gz_iload_n K dX9_scale_1 2 rfl ?_
  refine gz_callS K hex (c_X9_checkElement K.2.2.2.2.2 K.2.2.1 hp) cf_X9_checkElement zq4_230 dX9_scale_2 rfl rfl (Nat.le_of_ble_eq_true rfl) ⟨Nat.le_of_ble_eq_true rfl, Nat.le_of_ble_eq_true rfl⟩ ⟨Nat.le_of_ble_eq_true rfl, Nat.le_of_ble_eq_true rfl⟩ (Nat.le_of_ble_eq_true rfl) (Nat.le_of_ble_eq_true rfl) (fun _ _ h => h.1 ▸ h.2) (fun _ τ hp => ?_)
  obtain ⟨rfl, hp⟩ := hp
  refine gz_norm (st' := []) (cells' := 2) (slots' := 12) rfl rfl rfl ?_
  refine gz_iload_n K dX9_scale_5 3 rfl ?_
  refine gz_sipush K (v := (-1000 : Int32)) dX9_scale_6 (by decide) ?_
  refine gz_icmp_lt K 19 dX9_scale_9 (by decide) (fun h => ?_) (fun h => ?_)
  · have hp := hp.1 h
    obtain ⟨sa, hsa⟩ := K.2.2.2.2.1.2.2.1 _ (List.mem_of_getElem? (l := zStr) (i := 20) rfl)
    exact gz_throw K hex true rfl xd_IllegalArgumentException_0 xd_IllegalArgumentException_1 xd_IllegalArgumentException_2 xd_IllegalArgumentException_5 (by decide) zq2_131 zq1_14 hsa xl_94 dX9_scale_19 dX9_scale_22 dX9_scale_23 dX9_scale_26 dX9_scale_29 (Nat.le_of_ble_eq_true rfl) (Nat.le_of_ble_eq_true rfl) (Nat.le_of_ble_eq_true rfl) (Nat.le_of_ble_eq_true rfl) hp (Nat.le_of_ble_eq_true rfl) (Nat.le_of_ble_eq_true rfl)
  · have hp := hp.2 h
    refine gz_iload_n K dX9_scale_12 3 rfl ?_
    refine gz_sipush K (v := (1000 : Int32)) dX9_scale_13 (by decide) ?_
    refine gz_icmp_le K 30 dX9_scale_16 (by decide) (fun h => ?_) (fun h => ?_)
    · have hp := hp.1 h
      refine gz_iload_n K dX9_scale_30 1 rfl ?_
      refine gz_if_ne K 43 dX9_scale_31 (by decide) (fun h => ?_) (fun h => ?_)
      · have hp := hp.1 h
        refine gz_aload_n K dX9_scale_43 0 rfl ?_
        refine gz_iload_n K dX9_scale_44 2 rfl ?_
        refine gz_iload_n K dX9_scale_45 3 rfl ?_
        refine gz_callV K hex (c_X9_scaleDouble K.2.2.2.2.2 K.2.2.1 hp) cf_X9_scaleDouble zq5_1 (by decide) (ce_0 _ _ _ _ _ _) rfl dX9_scale_46 rfl rfl (Nat.le_of_ble_eq_true rfl) ⟨Nat.le_of_ble_eq_true rfl, Nat.le_of_ble_eq_true rfl⟩ ⟨Nat.le_of_ble_eq_true rfl, Nat.le_of_ble_eq_true rfl⟩ (Nat.le_of_ble_eq_true rfl) (Nat.le_of_ble_eq_true rfl) (fun _ _ h => h) (fun r46 τ46 hp => ?_)
        refine gz_norm (st' := [.int r46]) (cells' := 3) (slots' := 18) rfl rfl rfl ?_
        exact gz_iret K hr hp dX9_scale_49 (Nat.le_of_ble_eq_true rfl) (Nat.le_of_ble_eq_true rfl)
      · have hp := hp.2 h
        refine gz_aload_n K dX9_scale_34 0 rfl ?_
        refine gz_iload_n K dX9_scale_35 2 rfl ?_
        refine gz_iload_n K dX9_scale_36 3 rfl ?_
        refine gz_callV K hex (c_X9_scaleFloat K.2.2.2.2.2 K.2.2.1 hp) cf_X9_scaleFloat zq4_235 (by decide) (ce_0 _ _ _ _ _ _) rfl dX9_scale_37 rfl rfl (Nat.le_of_ble_eq_true rfl) ⟨Nat.le_of_ble_eq_true rfl, Nat.le_of_ble_eq_true rfl⟩ ⟨Nat.le_of_ble_eq_true rfl, Nat.le_of_ble_eq_true rfl⟩ (Nat.le_of_ble_eq_true rfl) (Nat.le_of_ble_eq_true rfl) (fun _ _ h => h) (fun r37 τ37 hp => ?_)
        refine gz_norm (st' := [.int r37]) (cells' := 3) (slots' := 18) rfl rfl rfl ?_
        refine gz_goto K 49 dX9_scale_40 (by decide) ?_
        exact gz_iret K hr hp dX9_scale_49 (Nat.le_of_ble_eq_true rfl) (Nat.le_of_ble_eq_true rfl)
    · have hp := hp.2 h
      obtain ⟨sa, hsa⟩ := K.2.2.2.2.1.2.2.1 _ (List.mem_of_getElem? (l := zStr) (i := 20) rfl)
      exact gz_throw K hex true rfl xd_IllegalArgumentException_0 xd_IllegalArgumentException_1 xd_IllegalArgumentException_2 xd_IllegalArgumentException_5 (by decide) zq2_131 zq1_14 hsa xl_94 dX9_scale_19 dX9_scale_22 dX9_scale_23 dX9_scale_26 dX9_scale_29 (Nat.le_of_ble_eq_true rfl) (Nat.le_of_ble_eq_true rfl) (Nat.le_of_ble_eq_true rfl) (Nat.le_of_ble_eq_true rfl) hp (Nat.le_of_ble_eq_true rfl) (Nat.le_of_ble_eq_true rfl)
set_option maxRecDepth 100000 in
set_option maxHeartbeats 4000000 in
theorem c_X9_remainderOf {l : Launch} {D : va_G} {ad : Nat → Nat} {ty : Nat → ClassId} (hl : l.stackTraces = false) (hj : ∀ i j, i < 68 → j < 68 → ad i = ad j → i = j) {σ : Dz} {d0 : UInt64} {d2 : UInt64} {post : UInt64 → Prop} (hp : P_X9_remainderOf d0 d2 post) : Mz l D ad ty yX9_remainderOf cX9_remainderOf 10 (some .double) r_X9_remainderOf nD0 σ [.double d0, .double d2] (fun r τ => σ = τ ∧ post r) (fun _ _ => False) := by
  refine mz_of (by decide) hl hj (Nat.le_of_ble_eq_true rfl) ?_
  intro p e s m args below meth c K hex hr
  unfold P_X9_remainderOf at hp
  have bb_26 : ∀ (y0 : UInt64) (y4 : UInt64) (z0 : UInt64) , B_X9_remainderOf_26 post  y0 y4 z0 → Gz p l e r_X9_remainderOf s m args below meth c D ad ty 10 0 0 (Ez below D ad ty nD0 (fun r τ => σ = τ ∧ post r) (fun _ _ => False) args s 0 0) σ 26 [(0, .double y0), (4, .double y4)] [.double z0] := by
    intro y0 y4 z0 hp
    unfold B_X9_remainderOf_26 at hp
    refine gz_dstore K [(6, .double z0), (0, .double y0), (4, .double y4)] dX9_remainderOf_26 (by decide) rfl ?_
    refine gz_dload K dX9_remainderOf_28 2 rfl ?_
    refine gz_dload K dX9_remainderOf_30 0 rfl ?_
    refine gz_dcmp K dX9_remainderOf_32 ?_
    refine gz_if_ge K 38 dX9_remainderOf_33 (by decide) (fun h => ?_) (fun h => ?_)
    · have hp := hp.1 h
      refine gz_dload K dX9_remainderOf_38 2 rfl ?_
      refine gz_dload K dX9_remainderOf_40 2 rfl ?_
      refine gz_dload K dX9_remainderOf_42 0 rfl ?_
      obtain ⟨h, hp⟩ := hp
      refine gz_ddiv K dX9_remainderOf_44 h ?_
      refine gz_d2i K dX9_remainderOf_45 ?_
      refine gz_i2d K dX9_remainderOf_46 ?_
      refine gz_dload K dX9_remainderOf_47 0 rfl ?_
      obtain ⟨h, hp⟩ := hp
      refine gz_dmul K dX9_remainderOf_49 h ?_
      obtain ⟨h, hp⟩ := hp
      refine gz_dsub K dX9_remainderOf_50 h ?_
      refine gz_dstore K [(8, .double (FP.dsub y4 (FP.dmul (FP.i2d (FP.d2i (FP.ddiv y4 z0))) z0))), (6, .double z0), (0, .double y0), (4, .double y4)] dX9_remainderOf_51 (by decide) rfl ?_
      refine gz_dload_n K dX9_remainderOf_53 2 rfl ?_
      refine gz_dconst0 K dX9_remainderOf_54 ?_
      refine gz_dcmp K dX9_remainderOf_55 ?_
      refine gz_if_ge K 65 dX9_remainderOf_56 (by decide) (fun h => ?_) (fun h => ?_)
      · have hp := hp.1 h
        refine gz_dload K dX9_remainderOf_65 0 rfl ?_
        exact gz_dret K hr ⟨rfl, hp⟩ dX9_remainderOf_67 (Nat.le_of_ble_eq_true rfl) (Nat.le_of_ble_eq_true rfl)
      · have hp := hp.2 h
        refine gz_dload K dX9_remainderOf_59 0 rfl ?_
        refine gz_dneg K dX9_remainderOf_61 ?_
        refine gz_goto K 67 dX9_remainderOf_62 (by decide) ?_
        exact gz_dret K hr ⟨rfl, hp⟩ dX9_remainderOf_67 (Nat.le_of_ble_eq_true rfl) (Nat.le_of_ble_eq_true rfl)
    · have hp := hp.2 h
      refine gz_dload_n K dX9_remainderOf_36 1 rfl ?_
      exact gz_dret K hr ⟨rfl, hp⟩ dX9_remainderOf_37 (Nat.le_of_ble_eq_true rfl) (Nat.le_of_ble_eq_true rfl)
  have bb_12 : ∀ (y0 : UInt64) (y2 : UInt64) (z0 : UInt64) , B_X9_remainderOf_12 post  y0 y2 z0 → Gz p l e r_X9_remainderOf s m args below meth c D ad ty 10 0 0 (Ez below D ad ty nD0 (fun r τ => σ = τ ∧ post r) (fun _ _ => False) args s 0 0) σ 12 [(0, .double y0), (2, .double y2)] [.double z0] := by
    intro y0 y2 z0 hp
    unfold B_X9_remainderOf_12 at hp
    refine gz_dstore K [(4, .double z0), (0, .double y0), (2, .double y2)] dX9_remainderOf_12 (by decide) rfl ?_
    refine gz_dload_n K dX9_remainderOf_14 2 rfl ?_
    refine gz_dconst0 K dX9_remainderOf_15 ?_
    refine gz_dcmp K dX9_remainderOf_16 ?_
    refine gz_if_ge K 25 dX9_remainderOf_17 (by decide) (fun h => ?_) (fun h => ?_)
    · have hp := hp.1 h
      refine gz_dload_n K dX9_remainderOf_25 2 rfl ?_
      refine gz_sub [1, 0] rfl ?_
      exact bb_26 y0 z0 y2  hp
    · have hp := hp.2 h
      refine gz_dload_n K dX9_remainderOf_20 2 rfl ?_
      refine gz_dneg K dX9_remainderOf_21 ?_
      refine gz_goto K 26 dX9_remainderOf_22 (by decide) ?_
      refine gz_sub [1, 0] rfl ?_
      exact bb_26 y0 z0 (FP.dneg y2)  hp
  show Gz p l e r_X9_remainderOf s m args below meth c D ad ty 10 0 0 (Ez below D ad ty nD0 (fun r τ => σ = τ ∧ post r) (fun _ _ => False) args s 0 0) σ 0 [(0, .double d0), (2, .double d2)] []
  refine gz_dload_n K dX9_remainderOf_0 0 rfl ?_
  refine gz_dconst0 K dX9_remainderOf_1 ?_
  refine gz_dcmp K dX9_remainderOf_2 ?_
  refine gz_if_ge K 11 dX9_remainderOf_3 (by decide) (fun h => ?_) (fun h => ?_)
  · have hp := hp.1 h
    refine gz_dload_n K dX9_remainderOf_11 0 rfl ?_
    exact bb_12 d0 d2 d0  hp
  · have hp := hp.2 h
    refine gz_dload_n K dX9_remainderOf_6 0 rfl ?_
    refine gz_dneg K dX9_remainderOf_7 ?_
    refine gz_goto K 12 dX9_remainderOf_8 (by decide) ?_
    exact bb_12 d0 d2 (FP.dneg d0)  hp
set_option maxRecDepth 100000 in
set_option maxHeartbeats 4000000 in
theorem c_X9_remainder {l : Launch} {D : va_G} {ad : Nat → Nat} {ty : Nat → ClassId} (hl : l.stackTraces = false) (hj : ∀ i j, i < 68 → j < 68 → ad i = ad j → i = j) {σ : Dz} {x1 : Int32} {x2 : Int32} {x3 : Int32} {post : UInt64 → Prop} {px : String → Prop} (hp : P_X9_remainder σ x1 x2 x3 post px) : Mz l D ad ty yX9_remainder cX9_remainder 4 (some .double) r_X9_remainder nD0 σ [.ref (ad 0), .int x1, .int x2, .int x3] (fun r τ => σ = τ ∧ post r) (fun E τ => σ = τ ∧ px E) := by
  refine mz_of (by decide) hl hj (Nat.le_of_ble_eq_true rfl) ?_
  intro p e s m args below meth c K hex hr
  unfold P_X9_remainder at hp
  show Gz p l e r_X9_remainder s m args below meth c D ad ty 4 0 0 (Ez below D ad ty nD0 (fun r τ => σ = τ ∧ post r) (fun E τ => σ = τ ∧ px E) args s 3 18) σ 0 [(0, .ref (ad 0)), (1, .int x1), (2, .int x2), (3, .int x3)] []
  refine gz_iload_n K dX9_remainder_0 1 rfl ?_
  refine gz_iload_n K dX9_remainder_1 2 rfl ?_
  refine gz_callS K hex (c_X9_checkElement K.2.2.2.2.2 K.2.2.1 hp) cf_X9_checkElement zq4_230 dX9_remainder_2 rfl rfl (Nat.le_of_ble_eq_true rfl) ⟨Nat.le_of_ble_eq_true rfl, Nat.le_of_ble_eq_true rfl⟩ ⟨Nat.le_of_ble_eq_true rfl, Nat.le_of_ble_eq_true rfl⟩ (Nat.le_of_ble_eq_true rfl) (Nat.le_of_ble_eq_true rfl) (fun _ _ h => ⟨h.1, h.2⟩) (fun _ τ hp => ?_)
  obtain ⟨rfl, hp⟩ := hp
  refine gz_norm (st' := []) (cells' := 2) (slots' := 12) rfl rfl rfl ?_
  refine gz_iload_n K dX9_remainder_5 3 rfl ?_
  refine gz_if_ne K 20 dX9_remainder_6 (by decide) (fun h => ?_) (fun h => ?_)
  · have hp := hp.1 h
    refine gz_iload_n K dX9_remainder_20 1 rfl ?_
    refine gz_if_ne K 40 dX9_remainder_21 (by decide) (fun h => ?_) (fun h => ?_)
    · have hp := hp.1 h
      refine gz_aload_n K dX9_remainder_40 0 rfl ?_
      refine gz_get K (v := .ref (ad 42)) (by decide) (ce_0 _ _ _ _ _ _) rfl inz_X9 10 (by decide) zq1_212 rfl dX9_remainder_41 ?_
      refine gz_iload_n K dX9_remainder_44 2 rfl ?_
      obtain ⟨h, hp⟩ := hp
      refine gz_dald K (by decide) (ce_42 _ _ _ _ _ _) h dX9_remainder_45 ?_
      refine gz_iload_n K dX9_remainder_46 3 rfl ?_
      refine gz_i2d K dX9_remainder_47 ?_
      refine gz_callS K hex (c_X9_remainderOf K.2.2.2.2.2 K.2.2.1 hp) cf_X9_remainderOf zq5_14 dX9_remainder_48 rfl rfl (Nat.le_of_ble_eq_true rfl) ⟨Nat.le_of_ble_eq_true rfl, Nat.le_of_ble_eq_true rfl⟩ ⟨Nat.le_of_ble_eq_true rfl, Nat.le_of_ble_eq_true rfl⟩ (Nat.le_of_ble_eq_true rfl) (Nat.le_of_ble_eq_true rfl) (fun _ _ h => h.elim) (fun r48 τ hp => ?_)
      obtain ⟨rfl, hp⟩ := hp
      refine gz_norm (st' := [.double r48]) (cells' := 2) (slots' := 12) rfl rfl rfl ?_
      exact gz_dret K hr ⟨rfl, hp⟩ dX9_remainder_51 (Nat.le_of_ble_eq_true rfl) (Nat.le_of_ble_eq_true rfl)
    · have hp := hp.2 h
      refine gz_aload_n K dX9_remainder_24 0 rfl ?_
      refine gz_get K (v := .ref (ad 41)) (by decide) (ce_0 _ _ _ _ _ _) rfl inz_X9 9 (by decide) zq1_211 rfl dX9_remainder_25 ?_
      refine gz_iload_n K dX9_remainder_28 2 rfl ?_
      obtain ⟨h, hp⟩ := hp
      refine gz_fald K (by decide) (ce_41 _ _ _ _ _ _) h dX9_remainder_29 ?_
      obtain ⟨h, hp⟩ := hp
      refine gz_f2d K dX9_remainder_30 h ?_
      refine gz_iload_n K dX9_remainder_31 3 rfl ?_
      refine gz_i2f K dX9_remainder_32 ?_
      obtain ⟨h, hp⟩ := hp
      refine gz_f2d K dX9_remainder_33 h ?_
      refine gz_callS K hex (c_X9_remainderOf K.2.2.2.2.2 K.2.2.1 hp) cf_X9_remainderOf zq5_14 dX9_remainder_34 rfl rfl (Nat.le_of_ble_eq_true rfl) ⟨Nat.le_of_ble_eq_true rfl, Nat.le_of_ble_eq_true rfl⟩ ⟨Nat.le_of_ble_eq_true rfl, Nat.le_of_ble_eq_true rfl⟩ (Nat.le_of_ble_eq_true rfl) (Nat.le_of_ble_eq_true rfl) (fun _ _ h => h.elim) (fun r34 τ hp => ?_)
      obtain ⟨rfl, hp⟩ := hp
      refine gz_norm (st' := [.double r34]) (cells' := 2) (slots' := 12) rfl rfl rfl ?_
      refine gz_goto K 51 dX9_remainder_37 (by decide) ?_
      exact gz_dret K hr ⟨rfl, hp⟩ dX9_remainder_51 (Nat.le_of_ble_eq_true rfl) (Nat.le_of_ble_eq_true rfl)
  · have hp := hp.2 h
    obtain ⟨sa, hsa⟩ := K.2.2.2.2.1.2.2.1 _ (List.mem_of_getElem? (l := zStr) (i := 22) rfl)
    exact gz_throw K hex true rfl xd_ArithmeticException_0 xd_ArithmeticException_1 xd_ArithmeticException_2 xd_ArithmeticException_5 (by decide) zq3_184 zq1_20 hsa xl_162 dX9_remainder_9 dX9_remainder_12 dX9_remainder_13 dX9_remainder_16 dX9_remainder_19 (Nat.le_of_ble_eq_true rfl) (Nat.le_of_ble_eq_true rfl) (Nat.le_of_ble_eq_true rfl) (Nat.le_of_ble_eq_true rfl) ⟨rfl, hp⟩ (Nat.le_of_ble_eq_true rfl) (Nat.le_of_ble_eq_true rfl)
set_option maxRecDepth 100000 in
set_option maxHeartbeats 4000000 in
theorem c_X9_snapshot {l : Launch} {D : va_G} {ad : Nat → Nat} {ty : Nat → ClassId} (hl : l.stackTraces = false) (hj : ∀ i j, i < 68 → j < 68 → ad i = ad j → i = j) {σ : Dz} {post : Dz → Prop} (hp : P_X9_snapshot σ post) : Mz l D ad ty yX9_snapshot cX9_snapshot 1 none r_X9_snapshot nV0 σ [.ref (ad 0)] (fun _ τ => post τ) (fun _ _ => False) := by
  refine mz_of (by decide) hl hj (Nat.le_of_ble_eq_true rfl) ?_
  intro p e s m args below meth c K hex hr
  unfold P_X9_snapshot at hp
  show Gz p l e r_X9_snapshot s m args below meth c D ad ty 1 0 0 (Ez below D ad ty nV0 (fun _ τ => post τ) (fun _ _ => False) args s 0 0) σ 0 [(0, .ref (ad 0))] []
  refine gz_aload_n K dX9_snapshot_0 0 rfl ?_
  refine gz_get K (v := .ref (ad 28)) (by decide) (ce_0 _ _ _ _ _ _) rfl inz_X9 7 (by decide) zq1_209 rfl dX9_snapshot_1 ?_
  refine gz_aload_n K dX9_snapshot_4 0 rfl ?_
  refine gz_get K (v := .ref (ad 17)) (by decide) (ce_0 _ _ _ _ _ _) rfl inz_X9 6 (by decide) zq1_208 rfl dX9_snapshot_5 ?_
  refine gz_callV K hex (c_X4_copyFrom K.2.2.2.2.2 K.2.2.1 (by unfold isS; decide) (by unfold isS; decide) hp) cf_X4_copyFrom zq2_95 (by decide) (ce_28 _ _ _ _ _ _) rfl dX9_snapshot_8 rfl rfl (Nat.le_of_ble_eq_true rfl) ⟨Nat.le_of_ble_eq_true rfl, Nat.le_of_ble_eq_true rfl⟩ ⟨Nat.le_of_ble_eq_true rfl, Nat.le_of_ble_eq_true rfl⟩ (Nat.le_of_ble_eq_true rfl) (Nat.le_of_ble_eq_true rfl) (fun _ _ h => h.elim) (fun _ τ8 hp => ?_)
  refine gz_norm (st' := []) (cells' := 0) (slots' := 0) rfl rfl rfl ?_
  refine gz_aload_n K dX9_snapshot_11 0 rfl ?_
  refine gz_iconst K (v := (1 : Int32)) dX9_snapshot_12 (by decide) ?_
  refine gz_put K (x := (1 : Int32)) (by decide) (ce_0 _ _ _ _ _ _) rfl inz_X9 tyX9 tyX9_ok nmX9 13 (by decide) zq1_215 rfl (tyX9_ok _ (by decide)) rfl rfl (Nat.le_of_ble_eq_true rfl) peX9_13 dX9_snapshot_13 ?_
  exact gz_vret K hr hp dX9_snapshot_16 (Nat.le_of_ble_eq_true rfl) (Nat.le_of_ble_eq_true rfl)
set_option maxRecDepth 100000 in
set_option maxHeartbeats 4000000 in
theorem c_X9_restore {l : Launch} {D : va_G} {ad : Nat → Nat} {ty : Nat → ClassId} (hl : l.stackTraces = false) (hj : ∀ i j, i < 68 → j < 68 → ad i = ad j → i = j) {σ : Dz} {post : Dz → Prop} {px : String → Dz → Prop} (hp : P_X9_restore σ post px) : Mz l D ad ty yX9_restore cX9_restore 1 none r_X9_restore nV0 σ [.ref (ad 0)] (fun _ τ => post τ) px := by
  refine mz_of (by decide) hl hj (Nat.le_of_ble_eq_true rfl) ?_
  intro p e s m args below meth c K hex hr
  unfold P_X9_restore at hp
  show Gz p l e r_X9_restore s m args below meth c D ad ty 1 0 0 (Ez below D ad ty nV0 (fun _ τ => post τ) px args s 1 6) σ 0 [(0, .ref (ad 0))] []
  refine gz_aload_n K dX9_restore_0 0 rfl ?_
  refine gz_get K (v := .int (gz_i σ 0 13)) (by decide) (ce_0 _ _ _ _ _ _) rfl inz_X9 13 (by decide) zq1_215 rfl dX9_restore_1 ?_
  refine gz_if_ne K 18 dX9_restore_4 (by decide) (fun h => ?_) (fun h => ?_)
  · have hp := hp.1 h
    refine gz_aload_n K dX9_restore_18 0 rfl ?_
    refine gz_get K (v := .ref (ad 17)) (by decide) (ce_0 _ _ _ _ _ _) rfl inz_X9 6 (by decide) zq1_208 rfl dX9_restore_19 ?_
    refine gz_aload_n K dX9_restore_22 0 rfl ?_
    refine gz_get K (v := .ref (ad 28)) (by decide) (ce_0 _ _ _ _ _ _) rfl inz_X9 7 (by decide) zq1_209 rfl dX9_restore_23 ?_
    refine gz_callV K hex (c_X4_copyFrom K.2.2.2.2.2 K.2.2.1 (by unfold isS; decide) (by unfold isS; decide) hp) cf_X4_copyFrom zq2_95 (by decide) (ce_17 _ _ _ _ _ _) rfl dX9_restore_26 rfl rfl (Nat.le_of_ble_eq_true rfl) ⟨Nat.le_of_ble_eq_true rfl, Nat.le_of_ble_eq_true rfl⟩ ⟨Nat.le_of_ble_eq_true rfl, Nat.le_of_ble_eq_true rfl⟩ (Nat.le_of_ble_eq_true rfl) (Nat.le_of_ble_eq_true rfl) (fun _ _ h => h.elim) (fun _ τ26 hp => ?_)
    refine gz_norm (st' := []) (cells' := 0) (slots' := 0) rfl rfl rfl ?_
    refine gz_aload_n K dX9_restore_29 0 rfl ?_
    refine gz_iconst K (v := (0 : Int32)) dX9_restore_30 (by decide) ?_
    refine gz_put K (x := (0 : Int32)) (by decide) (ce_0 _ _ _ _ _ _) rfl inz_X9 tyX9 tyX9_ok nmX9 14 (by decide) zq1_216 rfl (tyX9_ok _ (by decide)) rfl rfl (Nat.le_of_ble_eq_true rfl) peX9_14 dX9_restore_31 ?_
    exact gz_vret K hr hp dX9_restore_34 (Nat.le_of_ble_eq_true rfl) (Nat.le_of_ble_eq_true rfl)
  · have hp := hp.2 h
    obtain ⟨sa, hsa⟩ := K.2.2.2.2.1.2.2.1 _ (List.mem_of_getElem? (l := zStr) (i := 23) rfl)
    exact gz_throw K hex true rfl xd_IllegalStateException_0 xd_IllegalStateException_1 xd_IllegalStateException_2 xd_IllegalStateException_5 (by decide) zq2_216 zq1_15 hsa xl_110 dX9_restore_7 dX9_restore_10 dX9_restore_11 dX9_restore_14 dX9_restore_17 (Nat.le_of_ble_eq_true rfl) (Nat.le_of_ble_eq_true rfl) (Nat.le_of_ble_eq_true rfl) (Nat.le_of_ble_eq_true rfl) hp (Nat.le_of_ble_eq_true rfl) (Nat.le_of_ble_eq_true rfl)
set_option maxRecDepth 100000 in
set_option maxHeartbeats 4000000 in
theorem c_X10_thrown {l : Launch} {D : va_G} {ad : Nat → Nat} {ty : Nat → ClassId} (hl : l.stackTraces = false) (hj : ∀ i j, i < 68 → j < 68 → ad i = ad j → i = j) {σ : Dz} {post : Int32 → Prop} (hp : P_X10_thrown σ post) : Mz l D ad ty yX10_thrown cX10_thrown 1 (some .int) r_X10_thrown nI0 σ [.ref (ad 43)] (fun r τ => σ = τ ∧ post r) (fun _ _ => False) := by
  refine mz_of (by decide) hl hj (Nat.le_of_ble_eq_true rfl) ?_
  intro p e s m args below meth c K hex hr
  unfold P_X10_thrown at hp
  show Gz p l e r_X10_thrown s m args below meth c D ad ty 1 0 0 (Ez below D ad ty nI0 (fun r τ => σ = τ ∧ post r) (fun _ _ => False) args s 0 0) σ 0 [(0, .ref (ad 43))] []
  refine gz_aload_n K dX10_thrown_0 0 rfl ?_
  refine gz_get K (v := .int (gz_i σ 43 0)) (by decide) (ce_43 _ _ _ _ _ _) rfl inz_X10 0 (by decide) zq5_31 rfl dX10_thrown_1 ?_
  exact gz_iret K hr ⟨rfl, hp⟩ dX10_thrown_4 (Nat.le_of_ble_eq_true rfl) (Nat.le_of_ble_eq_true rfl)
set_option maxRecDepth 100000 in
set_option maxHeartbeats 4000000 in
theorem c_X10_in {l : Launch} {D : va_G} {ad : Nat → Nat} {ty : Nat → ClassId} (hl : l.stackTraces = false) (hj : ∀ i j, i < 68 → j < 68 → ad i = ad j → i = j) {σ : Dz} {x0 : Int32} {x1 : Int32} {x2 : Int32} {post : Int32 → Prop} (hp : P_X10_in x0 x1 x2 post) : Mz l D ad ty yX10_in cX10_in 3 (some .boolean) r_X10_in nI0 σ [.int x0, .int x1, .int x2] (fun r τ => σ = τ ∧ post r) (fun _ _ => False) := by
  refine mz_of (by decide) hl hj (Nat.le_of_ble_eq_true rfl) ?_
  intro p e s m args below meth c K hex hr
  unfold P_X10_in at hp
  show Gz p l e r_X10_in s m args below meth c D ad ty 3 0 0 (Ez below D ad ty nI0 (fun r τ => σ = τ ∧ post r) (fun _ _ => False) args s 0 0) σ 0 [(0, .int x0), (1, .int x1), (2, .int x2)] []
  refine gz_iload_n K dX10_in_0 0 rfl ?_
  refine gz_iload_n K dX10_in_1 1 rfl ?_
  refine gz_icmp_lt K 14 dX10_in_2 (by decide) (fun h => ?_) (fun h => ?_)
  · have hp := hp.1 h
    refine gz_iconst K (v := (0 : Int32)) dX10_in_14 (by decide) ?_
    exact gz_zret K hr (by decide) ⟨rfl, hp⟩ dX10_in_15 (Nat.le_of_ble_eq_true rfl) (Nat.le_of_ble_eq_true rfl)
  · have hp := hp.2 h
    refine gz_iload_n K dX10_in_5 0 rfl ?_
    refine gz_iload_n K dX10_in_6 2 rfl ?_
    refine gz_icmp_gt K 14 dX10_in_7 (by decide) (fun h => ?_) (fun h => ?_)
    · have hp := hp.1 h
      refine gz_iconst K (v := (0 : Int32)) dX10_in_14 (by decide) ?_
      exact gz_zret K hr (by decide) ⟨rfl, hp⟩ dX10_in_15 (Nat.le_of_ble_eq_true rfl) (Nat.le_of_ble_eq_true rfl)
    · have hp := hp.2 h
      refine gz_iconst K (v := (1 : Int32)) dX10_in_10 (by decide) ?_
      refine gz_goto K 15 dX10_in_11 (by decide) ?_
      exact gz_zret K hr (by decide) ⟨rfl, hp⟩ dX10_in_15 (Nat.le_of_ble_eq_true rfl) (Nat.le_of_ble_eq_true rfl)
set_option maxRecDepth 100000 in
set_option maxHeartbeats 4000000 in
theorem c_X10_fails {l : Launch} {D : va_G} {ad : Nat → Nat} {ty : Nat → ClassId} (hl : l.stackTraces = false) (hj : ∀ i j, i < 68 → j < 68 → ad i = ad j → i = j) {σ : Dz} {x1 : Int32} {post : Int32 → Dz → Prop} (hp : P_X10_fails σ x1 post) : Mz l D ad ty yX10_fails cX10_fails 2 (some .int) r_X10_fails nI0 σ [.ref (ad 43), .int x1] post (fun _ _ => False) := by
  refine mz_of (by decide) hl hj (Nat.le_of_ble_eq_true rfl) ?_
  intro p e s m args below meth c K hex hr
  unfold P_X10_fails at hp
  show Gz p l e r_X10_fails s m args below meth c D ad ty 2 0 0 (Ez below D ad ty nI0 post (fun _ _ => False) args s 0 0) σ 0 [(0, .ref (ad 43)), (1, .int x1)] []
  refine gz_aload_n K dX10_fails_0 0 rfl ?_
  refine gz_iload_n K dX10_fails_1 1 rfl ?_
  refine gz_put K (x := x1) (by decide) (ce_43 _ _ _ _ _ _) rfl inz_X10 tyX10 tyX10_ok nmX10 0 (by decide) zq5_31 rfl (tyX10_ok _ (by decide)) rfl rfl (Nat.le_of_ble_eq_true rfl) peX10_0 dX10_fails_2 ?_
  refine gz_iconst K (v := (0 : Int32)) dX10_fails_5 (by decide) ?_
  exact gz_iret K hr hp dX10_fails_6 (Nat.le_of_ble_eq_true rfl) (Nat.le_of_ble_eq_true rfl)
set_option maxRecDepth 100000 in
set_option maxHeartbeats 4000000 in
theorem c_X10_done {l : Launch} {D : va_G} {ad : Nat → Nat} {ty : Nat → ClassId} (hl : l.stackTraces = false) (hj : ∀ i j, i < 68 → j < 68 → ad i = ad j → i = j) {σ : Dz} {x1 : Int32} {post : Int32 → Dz → Prop} (hp : P_X10_done σ x1 post) : Mz l D ad ty yX10_done cX10_done 2 (some .int) r_X10_done nI0 σ [.ref (ad 43), .int x1] post (fun _ _ => False) := by
  refine mz_of (by decide) hl hj (Nat.le_of_ble_eq_true rfl) ?_
  intro p e s m args below meth c K hex hr
  unfold P_X10_done at hp
  show Gz p l e r_X10_done s m args below meth c D ad ty 2 0 0 (Ez below D ad ty nI0 post (fun _ _ => False) args s 0 0) σ 0 [(0, .ref (ad 43)), (1, .int x1)] []
  refine gz_aload_n K dX10_done_0 0 rfl ?_
  refine gz_iconst K (v := (0 : Int32)) dX10_done_1 (by decide) ?_
  refine gz_put K (x := (0 : Int32)) (by decide) (ce_43 _ _ _ _ _ _) rfl inz_X10 tyX10 tyX10_ok nmX10 0 (by decide) zq5_31 rfl (tyX10_ok _ (by decide)) rfl rfl (Nat.le_of_ble_eq_true rfl) peX10_0 dX10_done_2 ?_
  refine gz_iload_n K dX10_done_5 1 rfl ?_
  exact gz_iret K hr hp dX10_done_6 (Nat.le_of_ble_eq_true rfl) (Nat.le_of_ble_eq_true rfl)
set_option maxRecDepth 100000 in
set_option maxHeartbeats 4000000 in
theorem c_X10_so {l : Launch} {D : va_G} {ad : Nat → Nat} {ty : Nat → ClassId} (hl : l.stackTraces = false) (hj : ∀ i j, i < 68 → j < 68 → ad i = ad j → i = j) {σ : Dz} {x1 : Int32} {post : Int32 → Dz → Prop} (hp : P_X10_so σ x1 post) : Mz l D ad ty yX10_so cX10_so 2 (some .boolean) r_X10_so nI0 σ [.ref (ad 43), .int x1] post (fun _ _ => False) := by
  refine mz_of (by decide) hl hj (Nat.le_of_ble_eq_true rfl) ?_
  intro p e s m args below meth c K hex hr
  unfold P_X10_so at hp
  show Gz p l e r_X10_so s m args below meth c D ad ty 2 0 0 (Ez below D ad ty nI0 post (fun _ _ => False) args s 0 0) σ 0 [(0, .ref (ad 43)), (1, .int x1)] []
  refine gz_aload_n K dX10_so_0 0 rfl ?_
  refine gz_iconst K (v := (0 : Int32)) dX10_so_1 (by decide) ?_
  refine gz_put K (x := (0 : Int32)) (by decide) (ce_43 _ _ _ _ _ _) rfl inz_X10 tyX10 tyX10_ok nmX10 0 (by decide) zq5_31 rfl (tyX10_ok _ (by decide)) rfl rfl (Nat.le_of_ble_eq_true rfl) peX10_0 dX10_so_2 ?_
  refine gz_iload_n K dX10_so_5 1 rfl ?_
  exact gz_zret K hr (nB hp.1) hp.2 dX10_so_6 (Nat.le_of_ble_eq_true rfl) (Nat.le_of_ble_eq_true rfl)
set_option maxRecDepth 100000 in
set_option maxHeartbeats 4000000 in
theorem c_X10_not {l : Launch} {D : va_G} {ad : Nat → Nat} {ty : Nat → ClassId} (hl : l.stackTraces = false) (hj : ∀ i j, i < 68 → j < 68 → ad i = ad j → i = j) {σ : Dz} {x1 : Int32} {post : Int32 → Dz → Prop} (hp : P_X10_not σ x1 post) : Mz l D ad ty yX10_not cX10_not 2 (some .boolean) r_X10_not nI0 σ [.ref (ad 43), .int x1] post (fun _ _ => False) := by
  refine mz_of (by decide) hl hj (Nat.le_of_ble_eq_true rfl) ?_
  intro p e s m args below meth c K hex hr
  unfold P_X10_not at hp
  show Gz p l e r_X10_not s m args below meth c D ad ty 2 0 0 (Ez below D ad ty nI0 post (fun _ _ => False) args s 0 0) σ 0 [(0, .ref (ad 43)), (1, .int x1)] []
  refine gz_aload_n K dX10_not_0 0 rfl ?_
  refine gz_iload_n K dX10_not_1 1 rfl ?_
  refine gz_put K (x := x1) (by decide) (ce_43 _ _ _ _ _ _) rfl inz_X10 tyX10 tyX10_ok nmX10 0 (by decide) zq5_31 rfl (tyX10_ok _ (by decide)) rfl rfl (Nat.le_of_ble_eq_true rfl) peX10_0 dX10_not_2 ?_
  refine gz_iconst K (v := (0 : Int32)) dX10_not_5 (by decide) ?_
  exact gz_zret K hr (by decide) hp dX10_not_6 (Nat.le_of_ble_eq_true rfl) (Nat.le_of_ble_eq_true rfl)
set_option maxRecDepth 100000 in
set_option maxHeartbeats 4000000 in
theorem c_X10_isSlot {l : Launch} {D : va_G} {ad : Nat → Nat} {ty : Nat → ClassId} (hl : l.stackTraces = false) (hj : ∀ i j, i < 68 → j < 68 → ad i = ad j → i = j) {σ : Dz} {x0 : Int32} {post : Int32 → Prop} (hp : P_X10_isSlot x0 post) : Mz l D ad ty yX10_isSlot cX10_isSlot 1 (some .boolean) r_X10_isSlot nI0 σ [.int x0] (fun r τ => σ = τ ∧ post r) (fun _ _ => False) := by
  refine mz_of (by decide) hl hj (Nat.le_of_ble_eq_true rfl) ?_
  intro p e s m args below meth c K hex hr
  unfold P_X10_isSlot at hp
  show Gz p l e r_X10_isSlot s m args below meth c D ad ty 1 0 0 (Ez below D ad ty nI0 (fun r τ => σ = τ ∧ post r) (fun _ _ => False) args s 0 0) σ 0 [(0, .int x0)] []
  refine gz_iload_n K dX10_isSlot_0 0 rfl ?_
  refine gz_iconst K (v := (0 : Int32)) dX10_isSlot_1 (by decide) ?_
  refine gz_iconst K (v := (3 : Int32)) dX10_isSlot_2 (by decide) ?_
  refine gz_callS K hex (c_X10_in K.2.2.2.2.2 K.2.2.1 hp) cf_X10_in zq5_146 dX10_isSlot_3 rfl rfl (Nat.le_of_ble_eq_true rfl) ⟨Nat.le_of_ble_eq_true rfl, Nat.le_of_ble_eq_true rfl⟩ ⟨Nat.le_of_ble_eq_true rfl, Nat.le_of_ble_eq_true rfl⟩ (Nat.le_of_ble_eq_true rfl) (Nat.le_of_ble_eq_true rfl) (fun _ _ h => h.elim) (fun r3 τ hp => ?_)
  obtain ⟨rfl, hp⟩ := hp
  refine gz_norm (st' := [.int r3]) (cells' := 0) (slots' := 0) rfl rfl rfl ?_
  exact gz_zret K hr (nB hp.1) ⟨rfl, hp.2⟩ dX10_isSlot_6 (Nat.le_of_ble_eq_true rfl) (Nat.le_of_ble_eq_true rfl)
set_option maxRecDepth 100000 in
set_option maxHeartbeats 4000000 in
theorem c_X10_isPosition {l : Launch} {D : va_G} {ad : Nat → Nat} {ty : Nat → ClassId} (hl : l.stackTraces = false) (hj : ∀ i j, i < 68 → j < 68 → ad i = ad j → i = j) {σ : Dz} {x1 : Int32} {post : Int32 → Prop} (hp : P_X10_isPosition σ x1 post) : Mz l D ad ty yX10_isPosition cX10_isPosition 2 (some .boolean) r_X10_isPosition nI0 σ [.ref (ad 43), .int x1] (fun r τ => σ = τ ∧ post r) (fun _ _ => False) := by
  refine mz_of (by decide) hl hj (Nat.le_of_ble_eq_true rfl) ?_
  intro p e s m args below meth c K hex hr
  unfold P_X10_isPosition at hp
  show Gz p l e r_X10_isPosition s m args below meth c D ad ty 2 0 0 (Ez below D ad ty nI0 (fun r τ => σ = τ ∧ post r) (fun _ _ => False) args s 0 0) σ 0 [(0, .ref (ad 43)), (1, .int x1)] []
  refine gz_iload_n K dX10_isPosition_0 1 rfl ?_
  refine gz_iconst K (v := (1 : Int32)) dX10_isPosition_1 (by decide) ?_
  refine gz_aload_n K dX10_isPosition_2 0 rfl ?_
  refine gz_get K (v := .int (gz_i σ 43 1)) (by decide) (ce_43 _ _ _ _ _ _) rfl inz_X10 1 (by decide) zq5_32 rfl dX10_isPosition_3 ?_
  refine gz_callS K hex (c_X10_in K.2.2.2.2.2 K.2.2.1 hp) cf_X10_in zq5_146 dX10_isPosition_6 rfl rfl (Nat.le_of_ble_eq_true rfl) ⟨Nat.le_of_ble_eq_true rfl, Nat.le_of_ble_eq_true rfl⟩ ⟨Nat.le_of_ble_eq_true rfl, Nat.le_of_ble_eq_true rfl⟩ (Nat.le_of_ble_eq_true rfl) (Nat.le_of_ble_eq_true rfl) (fun _ _ h => h.elim) (fun r6 τ hp => ?_)
  obtain ⟨rfl, hp⟩ := hp
  refine gz_norm (st' := [.int r6]) (cells' := 0) (slots' := 0) rfl rfl rfl ?_
  exact gz_zret K hr (nB hp.1) ⟨rfl, hp.2⟩ dX10_isPosition_9 (Nat.le_of_ble_eq_true rfl) (Nat.le_of_ble_eq_true rfl)
set_option maxRecDepth 100000 in
set_option maxHeartbeats 4000000 in
theorem c_X10_reset {l : Launch} {D : va_G} {ad : Nat → Nat} {ty : Nat → ClassId} (hl : l.stackTraces = false) (hj : ∀ i j, i < 68 → j < 68 → ad i = ad j → i = j) {σ : Dz} {x1 : Int32} {post : Int32 → Dz → Prop} (hp : P_X10_reset σ x1 post) : Mz l D ad ty yX10_reset cX10_reset 4 (some .int) r_X10_reset nI0 σ [.ref (ad 43), .int x1] post (fun _ _ => False) := by
  refine mz_of (by decide) hl hj (Nat.le_of_ble_eq_true rfl) ?_
  intro p e s m args below meth c K hex hr
  unfold P_X10_reset at hp
  show Gz p l e r_X10_reset s m args below meth c D ad ty 4 0 0 (Ez below D ad ty nI0 post (fun _ _ => False) args s 0 0) σ 0 [(0, .ref (ad 43)), (1, .int x1)] []
  refine gz_iload_n K dX10_reset_0 1 rfl ?_
  refine gz_iconst K (v := (2 : Int32)) dX10_reset_1 (by decide) ?_
  refine gz_bipush K (v := (7 : Int32)) dX10_reset_2 (by decide) ?_
  refine gz_callS K hex (c_X10_in K.2.2.2.2.2 K.2.2.1 hp) cf_X10_in zq5_146 dX10_reset_4 rfl rfl (Nat.le_of_ble_eq_true rfl) ⟨Nat.le_of_ble_eq_true rfl, Nat.le_of_ble_eq_true rfl⟩ ⟨Nat.le_of_ble_eq_true rfl, Nat.le_of_ble_eq_true rfl⟩ (Nat.le_of_ble_eq_true rfl) (Nat.le_of_ble_eq_true rfl) (fun _ _ h => h.elim) (fun r4 τ hp => ?_)
  obtain ⟨rfl, hp⟩ := hp
  refine gz_norm (st' := [.int r4]) (cells' := 0) (slots' := 0) rfl rfl rfl ?_
  refine gz_if_ne K 16 dX10_reset_7 (by decide) (fun h => ?_) (fun h => ?_)
  · have hp := hp.1 h
    refine gz_aload_n K dX10_reset_16 0 rfl ?_
    refine gz_get K (v := .int (gz_i σ 43 1)) (by decide) (ce_43 _ _ _ _ _ _) rfl inz_X10 1 (by decide) zq5_32 rfl dX10_reset_17 ?_
    refine gz_istore_n K [(2, .int (gz_i σ 43 1)), (0, .ref (ad 43)), (1, .int x1)] dX10_reset_20 (by decide) rfl ?_
    refine gz_aload_n K dX10_reset_21 1 rfl ?_
    refine gz_iload_n K dX10_reset_22 2 rfl ?_
    refine gz_put K (x := x1) (by decide) (ce_43 _ _ _ _ _ _) rfl inz_X10 tyX10 tyX10_ok nmX10 1 (by decide) zq5_32 rfl (tyX10_ok _ (by decide)) rfl rfl (Nat.le_of_ble_eq_true rfl) peX10_1 dX10_reset_23 ?_
    refine gz_iconst K (v := (1 : Int32)) dX10_reset_26 (by decide) ?_
    refine gz_istore_n K [(3, .int (1 : Int32)), (2, .int (gz_i σ 43 1)), (0, .ref (ad 43)), (1, .int x1)] dX10_reset_27 (by decide) rfl ?_
    refine gz_sub [2, 1, 0] rfl ?_
    have ll_28 : ∀ (n_28 : Nat) (σ : Dz) (y2 : Int32) (y3 : Int32) , L_X10_reset_28 post  n_28 σ y2 y3 → Gz p l e r_X10_reset s m args below meth c D ad ty 4 0 0 (Ez below D ad ty nI0 post (fun _ _ => False) args s 0 0) σ 28 [(0, .ref (ad 43)), (2, .int y2), (3, .int y3)] [] := by
      intro n_28; induction n_28 with
      | zero => intro σ y2 y3 hp; exact False.elim hp
      | succ n_28 ih_28 =>
        intro σ y2 y3 hp
        have hp : B_X10_reset_28 post  (L_X10_reset_28 post  n_28) σ y2 y3 := hp
        unfold B_X10_reset_28 at hp
        refine gz_iload_n K dX10_reset_28 2 rfl ?_
        refine gz_bipush K (v := (8 : Int32)) dX10_reset_29 (by decide) ?_
        refine gz_icmp_ge K 47 dX10_reset_31 (by decide) (fun h => ?_) (fun h => ?_)
        · have hp := hp.1 h
          refine gz_iconst K (v := (0 : Int32)) dX10_reset_47 (by decide) ?_
          refine gz_istore_n K [(3, .int (0 : Int32)), (0, .ref (ad 43)), (2, .int y2)] dX10_reset_48 (by decide) rfl ?_
          refine gz_sub [1, 2, 0] rfl ?_
          have ll_49 : ∀ (n_49 : Nat) (σ : Dz) (y2 : Int32) (y3 : Int32) , L_X10_reset_49 post  n_49 σ y2 y3 → Gz p l e r_X10_reset s m args below meth c D ad ty 4 0 0 (Ez below D ad ty nI0 post (fun _ _ => False) args s 0 0) σ 49 [(0, .ref (ad 43)), (2, .int y2), (3, .int y3)] [] := by
            intro n_49; induction n_49 with
            | zero => intro σ y2 y3 hp; exact False.elim hp
            | succ n_49 ih_49 =>
              intro σ y2 y3 hp
              have hp : B_X10_reset_49 post  (L_X10_reset_49 post  n_49) σ y2 y3 := hp
              unfold B_X10_reset_49 at hp
              refine gz_iload_n K dX10_reset_49 2 rfl ?_
              refine gz_iconst K (v := (5 : Int32)) dX10_reset_50 (by decide) ?_
              refine gz_icmp_ge K 67 dX10_reset_51 (by decide) (fun h => ?_) (fun h => ?_)
              · have hp := hp.1 h
                refine gz_iconst K (v := (0 : Int32)) dX10_reset_67 (by decide) ?_
                refine gz_istore_n K [(3, .int (0 : Int32)), (0, .ref (ad 43)), (2, .int y2)] dX10_reset_68 (by decide) rfl ?_
                refine gz_sub [1, 2, 0] rfl ?_
                have ll_69 : ∀ (n_69 : Nat) (σ : Dz) (y2 : Int32) (y3 : Int32) , L_X10_reset_69 post  n_69 σ y2 y3 → Gz p l e r_X10_reset s m args below meth c D ad ty 4 0 0 (Ez below D ad ty nI0 post (fun _ _ => False) args s 0 0) σ 69 [(0, .ref (ad 43)), (2, .int y2), (3, .int y3)] [] := by
                  intro n_69; induction n_69 with
                  | zero => intro σ y2 y3 hp; exact False.elim hp
                  | succ n_69 ih_69 =>
                    intro σ y2 y3 hp
                    have hp : B_X10_reset_69 post  (L_X10_reset_69 post  n_69) σ y2 y3 := hp
                    unfold B_X10_reset_69 at hp
                    refine gz_iload_n K dX10_reset_69 2 rfl ?_
                    refine gz_iconst K (v := (4 : Int32)) dX10_reset_70 (by decide) ?_
                    refine gz_icmp_ge K 87 dX10_reset_71 (by decide) (fun h => ?_) (fun h => ?_)
                    · have hp := hp.1 h
                      refine gz_aload_n K dX10_reset_87 0 rfl ?_
                      refine gz_iconst K (v := (0 : Int32)) dX10_reset_88 (by decide) ?_
                      refine gz_put K (x := (0 : Int32)) (by decide) (ce_43 _ _ _ _ _ _) rfl inz_X10 tyX10 tyX10_ok nmX10 12 (by decide) zq5_43 rfl (tyX10_ok _ (by decide)) rfl rfl (Nat.le_of_ble_eq_true rfl) peX10_12 dX10_reset_89 ?_
                      refine gz_aload_n K dX10_reset_92 0 rfl ?_
                      refine gz_iconst K (v := (0 : Int32)) dX10_reset_93 (by decide) ?_
                      refine gz_put K (x := (0 : Int32)) (by decide) (ce_43 _ _ _ _ _ _) rfl inz_X10 tyX10 tyX10_ok nmX10 27 (by decide) zq5_58 rfl (tyX10_ok _ (by decide)) rfl rfl (Nat.le_of_ble_eq_true rfl) peX10_27 dX10_reset_94 ?_
                      refine gz_aload_n K dX10_reset_97 0 rfl ?_
                      refine gz_iload_n K dX10_reset_98 1 rfl ?_
                      refine gz_callV K hex (c_X10_done K.2.2.2.2.2 K.2.2.1 hp) cf_X10_done zq5_153 (by decide) (ce_43 _ _ _ _ _ _) rfl dX10_reset_99 rfl rfl (Nat.le_of_ble_eq_true rfl) ⟨Nat.le_of_ble_eq_true rfl, Nat.le_of_ble_eq_true rfl⟩ ⟨Nat.le_of_ble_eq_true rfl, Nat.le_of_ble_eq_true rfl⟩ (Nat.le_of_ble_eq_true rfl) (Nat.le_of_ble_eq_true rfl) (fun _ _ h => h.elim) (fun r99 τ99 hp => ?_)
                      refine gz_norm (st' := [.int r99]) (cells' := 0) (slots' := 0) rfl rfl rfl ?_
                      exact gz_iret K hr hp dX10_reset_102 (Nat.le_of_ble_eq_true rfl) (Nat.le_of_ble_eq_true rfl)
                    · have hp := hp.2 h
                      refine gz_aload_n K dX10_reset_74 0 rfl ?_
                      refine gz_get K (v := .ref (ad 47)) (by decide) (ce_43 _ _ _ _ _ _) rfl inz_X10 5 (by decide) zq5_36 rfl dX10_reset_75 ?_
                      refine gz_iload_n K dX10_reset_78 2 rfl ?_
                      refine gz_iconst K (v := (0 : Int32)) dX10_reset_79 (by decide) ?_
                      obtain ⟨h, hp⟩ := hp
                      refine gz_iast K (x := (0 : Int32)) (by decide) (ce_47 ad ty) h dX10_reset_80 ?_
                      refine gz_iinc K (v := (y3 + 1)) [(3, .int (y3 + 1)), (0, .ref (ad 43)), (2, .int y2)] dX10_reset_81 2 rfl (by first | rfl | decide) (by decide) rfl ?_
                      refine gz_goto K 69 dX10_reset_84 (by decide) ?_
                      refine gz_sub [1, 2, 0] rfl ?_
                      exact ih_69 (sz_i σ 47 (y3).toNatClampNeg (0 : Int32)) y2 (y3 + 1)  hp
                obtain ⟨n, hp⟩ := hp
                exact ll_69 n σ y2 (0 : Int32)  hp
              · have hp := hp.2 h
                refine gz_aload_n K dX10_reset_54 0 rfl ?_
                refine gz_get K (v := .ref (ad 45)) (by decide) (ce_43 _ _ _ _ _ _) rfl inz_X10 3 (by decide) zq5_34 rfl dX10_reset_55 ?_
                refine gz_iload_n K dX10_reset_58 2 rfl ?_
                refine gz_iconst K (v := (0 : Int32)) dX10_reset_59 (by decide) ?_
                obtain ⟨h, hp⟩ := hp
                refine gz_zastB K (x := (0 : Int32)) (by decide) (ce_45 ad ty) h (by decide) dX10_reset_60 ?_
                refine gz_iinc K (v := (y3 + 1)) [(3, .int (y3 + 1)), (0, .ref (ad 43)), (2, .int y2)] dX10_reset_61 2 rfl (by first | rfl | decide) (by decide) rfl ?_
                refine gz_goto K 49 dX10_reset_64 (by decide) ?_
                refine gz_sub [1, 2, 0] rfl ?_
                exact ih_49 (sz_i σ 45 (y3).toNatClampNeg (0 : Int32)) y2 (y3 + 1)  hp
          obtain ⟨n, hp⟩ := hp
          exact ll_49 n σ y2 (0 : Int32)  hp
        · have hp := hp.2 h
          refine gz_aload_n K dX10_reset_34 0 rfl ?_
          refine gz_get K (v := .ref (ad 44)) (by decide) (ce_43 _ _ _ _ _ _) rfl inz_X10 2 (by decide) zq5_33 rfl dX10_reset_35 ?_
          refine gz_iload_n K dX10_reset_38 2 rfl ?_
          refine gz_iload_n K dX10_reset_39 2 rfl ?_
          obtain ⟨h, hp⟩ := hp
          refine gz_iast K (x := y3) (by decide) (ce_44 ad ty) h dX10_reset_40 ?_
          refine gz_iinc K (v := (y3 + 1)) [(3, .int (y3 + 1)), (0, .ref (ad 43)), (2, .int y2)] dX10_reset_41 2 rfl (by first | rfl | decide) (by decide) rfl ?_
          refine gz_goto K 28 dX10_reset_44 (by decide) ?_
          refine gz_sub [1, 2, 0] rfl ?_
          exact ih_28 (sz_i σ 44 (y3).toNatClampNeg y3) y2 (y3 + 1)  hp
    obtain ⟨n, hp⟩ := hp
    exact ll_28 n (sz_i σ 43 1 x1) (gz_i σ 43 1) (1 : Int32)  hp
  · have hp := hp.2 h
    refine gz_aload_n K dX10_reset_10 0 rfl ?_
    refine gz_iconst K (v := (1 : Int32)) dX10_reset_11 (by decide) ?_
    refine gz_callV K hex (c_X10_fails K.2.2.2.2.2 K.2.2.1 hp) cf_X10_fails zq5_149 (by decide) (ce_43 _ _ _ _ _ _) rfl dX10_reset_12 rfl rfl (Nat.le_of_ble_eq_true rfl) ⟨Nat.le_of_ble_eq_true rfl, Nat.le_of_ble_eq_true rfl⟩ ⟨Nat.le_of_ble_eq_true rfl, Nat.le_of_ble_eq_true rfl⟩ (Nat.le_of_ble_eq_true rfl) (Nat.le_of_ble_eq_true rfl) (fun _ _ h => h.elim) (fun r12 τ12 hp => ?_)
    refine gz_norm (st' := [.int r12]) (cells' := 0) (slots' := 0) rfl rfl rfl ?_
    exact gz_iret K hr hp dX10_reset_15 (Nat.le_of_ble_eq_true rfl) (Nat.le_of_ble_eq_true rfl)
set_option maxRecDepth 100000 in
set_option maxHeartbeats 4000000 in
theorem c_X10_positions {l : Launch} {D : va_G} {ad : Nat → Nat} {ty : Nat → ClassId} (hl : l.stackTraces = false) (hj : ∀ i j, i < 68 → j < 68 → ad i = ad j → i = j) {σ : Dz} {post : Int32 → Dz → Prop} (hp : P_X10_positions σ post) : Mz l D ad ty yX10_positions cX10_positions 1 (some .int) r_X10_positions nI0 σ [.ref (ad 43)] post (fun _ _ => False) := by
  refine mz_of (by decide) hl hj (Nat.le_of_ble_eq_true rfl) ?_
  intro p e s m args below meth c K hex hr
  unfold P_X10_positions at hp
  show Gz p l e r_X10_positions s m args below meth c D ad ty 1 0 0 (Ez below D ad ty nI0 post (fun _ _ => False) args s 0 0) σ 0 [(0, .ref (ad 43))] []
  refine gz_aload_n K dX10_positions_0 0 rfl ?_
  refine gz_aload_n K dX10_positions_1 0 rfl ?_
  refine gz_get K (v := .int (gz_i σ 43 1)) (by decide) (ce_43 _ _ _ _ _ _) rfl inz_X10 1 (by decide) zq5_32 rfl dX10_positions_2 ?_
  refine gz_callV K hex (c_X10_done K.2.2.2.2.2 K.2.2.1 hp) cf_X10_done zq5_153 (by decide) (ce_43 _ _ _ _ _ _) rfl dX10_positions_5 rfl rfl (Nat.le_of_ble_eq_true rfl) ⟨Nat.le_of_ble_eq_true rfl, Nat.le_of_ble_eq_true rfl⟩ ⟨Nat.le_of_ble_eq_true rfl, Nat.le_of_ble_eq_true rfl⟩ (Nat.le_of_ble_eq_true rfl) (Nat.le_of_ble_eq_true rfl) (fun _ _ h => h.elim) (fun r5 τ5 hp => ?_)
  refine gz_norm (st' := [.int r5]) (cells' := 0) (slots' := 0) rfl rfl rfl ?_
  exact gz_iret K hr hp dX10_positions_8 (Nat.le_of_ble_eq_true rfl) (Nat.le_of_ble_eq_true rfl)
set_option maxRecDepth 100000 in
set_option maxHeartbeats 4000000 in
theorem c_X10_append {l : Launch} {D : va_G} {ad : Nat → Nat} {ty : Nat → ClassId} (hl : l.stackTraces = false) (hj : ∀ i j, i < 68 → j < 68 → ad i = ad j → i = j) {σ : Dz} {x1 : Int32} {post : Int32 → Dz → Prop} (hp : P_X10_append σ x1 post) : Mz l D ad ty yX10_append cX10_append 2 (some .int) r_X10_append nI0 σ [.ref (ad 43), .int x1] post (fun _ _ => False) := by
  refine mz_of (by decide) hl hj (Nat.le_of_ble_eq_true rfl) ?_
  intro p e s m args below meth c K hex hr
  unfold P_X10_append at hp
  show Gz p l e r_X10_append s m args below meth c D ad ty 2 0 0 (Ez below D ad ty nI0 post (fun _ _ => False) args s 0 0) σ 0 [(0, .ref (ad 43)), (1, .int x1)] []
  refine gz_iload_n K dX10_append_0 1 rfl ?_
  refine gz_bipush K (v := (32 : Int32)) dX10_append_1 (by decide) ?_
  refine gz_bipush K (v := (126 : Int32)) dX10_append_3 (by decide) ?_
  refine gz_callS K hex (c_X10_in K.2.2.2.2.2 K.2.2.1 hp) cf_X10_in zq5_146 dX10_append_5 rfl rfl (Nat.le_of_ble_eq_true rfl) ⟨Nat.le_of_ble_eq_true rfl, Nat.le_of_ble_eq_true rfl⟩ ⟨Nat.le_of_ble_eq_true rfl, Nat.le_of_ble_eq_true rfl⟩ (Nat.le_of_ble_eq_true rfl) (Nat.le_of_ble_eq_true rfl) (fun _ _ h => h.elim) (fun r5 τ hp => ?_)
  obtain ⟨rfl, hp⟩ := hp
  refine gz_norm (st' := [.int r5]) (cells' := 0) (slots' := 0) rfl rfl rfl ?_
  refine gz_if_ne K 17 dX10_append_8 (by decide) (fun h => ?_) (fun h => ?_)
  · have hp := hp.1 h
    refine gz_aload_n K dX10_append_17 0 rfl ?_
    refine gz_get K (v := .int (gz_i σ 43 8)) (by decide) (ce_43 _ _ _ _ _ _) rfl inz_X10 8 (by decide) zq5_39 rfl dX10_append_18 ?_
    refine gz_bipush K (v := (40 : Int32)) dX10_append_21 (by decide) ?_
    refine gz_icmp_ne K 32 dX10_append_23 (by decide) (fun h => ?_) (fun h => ?_)
    · have hp := hp.1 h
      refine gz_aload_n K dX10_append_32 0 rfl ?_
      refine gz_get K (v := .ref (ad 49)) (by decide) (ce_43 _ _ _ _ _ _) rfl inz_X10 7 (by decide) zq5_38 rfl dX10_append_33 ?_
      refine gz_aload_n K dX10_append_36 0 rfl ?_
      refine gz_get K (v := .int (gz_i σ 43 8)) (by decide) (ce_43 _ _ _ _ _ _) rfl inz_X10 8 (by decide) zq5_39 rfl dX10_append_37 ?_
      refine gz_iload_n K dX10_append_40 1 rfl ?_
      obtain ⟨hb41, hp⟩ := hp
      obtain ⟨h, hp⟩ := hp
      refine gz_castC K (x := x1) (by decide) (ce_49 ad ty) h hb41 dX10_append_41 ?_
      refine gz_aload_n K dX10_append_42 0 rfl ?_
      refine gz_dup K dX10_append_43 rfl ?_
      refine gz_get K (v := .int (gz_i (sz_i σ 49 ((gz_i σ 43 8)).toNatClampNeg x1) 43 8)) (by decide) (ce_43 _ _ _ _ _ _) rfl inz_X10 8 (by decide) zq5_39 rfl dX10_append_44 ?_
      refine gz_iconst K (v := (1 : Int32)) dX10_append_47 (by decide) ?_
      refine gz_iadd K dX10_append_48 ?_
      refine gz_put K (x := ((gz_i (sz_i σ 49 ((gz_i σ 43 8)).toNatClampNeg x1) 43 8) + (1 : Int32))) (by decide) (ce_43 _ _ _ _ _ _) rfl inz_X10 tyX10 tyX10_ok nmX10 8 (by decide) zq5_39 rfl (tyX10_ok _ (by decide)) rfl rfl (Nat.le_of_ble_eq_true rfl) peX10_8 dX10_append_49 ?_
      refine gz_aload_n K dX10_append_52 0 rfl ?_
      refine gz_aload_n K dX10_append_53 0 rfl ?_
      refine gz_get K (v := .int (gz_i (sz_i (sz_i σ 49 ((gz_i σ 43 8)).toNatClampNeg x1) 43 8 ((gz_i (sz_i σ 49 ((gz_i σ 43 8)).toNatClampNeg x1) 43 8) + (1 : Int32))) 43 8)) (by decide) (ce_43 _ _ _ _ _ _) rfl inz_X10 8 (by decide) zq5_39 rfl dX10_append_54 ?_
      refine gz_callV K hex (c_X10_done K.2.2.2.2.2 K.2.2.1 hp) cf_X10_done zq5_153 (by decide) (ce_43 _ _ _ _ _ _) rfl dX10_append_57 rfl rfl (Nat.le_of_ble_eq_true rfl) ⟨Nat.le_of_ble_eq_true rfl, Nat.le_of_ble_eq_true rfl⟩ ⟨Nat.le_of_ble_eq_true rfl, Nat.le_of_ble_eq_true rfl⟩ (Nat.le_of_ble_eq_true rfl) (Nat.le_of_ble_eq_true rfl) (fun _ _ h => h.elim) (fun r57 τ57 hp => ?_)
      refine gz_norm (st' := [.int r57]) (cells' := 0) (slots' := 0) rfl rfl rfl ?_
      exact gz_iret K hr hp dX10_append_60 (Nat.le_of_ble_eq_true rfl) (Nat.le_of_ble_eq_true rfl)
    · have hp := hp.2 h
      refine gz_aload_n K dX10_append_26 0 rfl ?_
      refine gz_iconst K (v := (2 : Int32)) dX10_append_27 (by decide) ?_
      refine gz_callV K hex (c_X10_fails K.2.2.2.2.2 K.2.2.1 hp) cf_X10_fails zq5_149 (by decide) (ce_43 _ _ _ _ _ _) rfl dX10_append_28 rfl rfl (Nat.le_of_ble_eq_true rfl) ⟨Nat.le_of_ble_eq_true rfl, Nat.le_of_ble_eq_true rfl⟩ ⟨Nat.le_of_ble_eq_true rfl, Nat.le_of_ble_eq_true rfl⟩ (Nat.le_of_ble_eq_true rfl) (Nat.le_of_ble_eq_true rfl) (fun _ _ h => h.elim) (fun r28 τ28 hp => ?_)
      refine gz_norm (st' := [.int r28]) (cells' := 0) (slots' := 0) rfl rfl rfl ?_
      exact gz_iret K hr hp dX10_append_31 (Nat.le_of_ble_eq_true rfl) (Nat.le_of_ble_eq_true rfl)
  · have hp := hp.2 h
    refine gz_aload_n K dX10_append_11 0 rfl ?_
    refine gz_iconst K (v := (1 : Int32)) dX10_append_12 (by decide) ?_
    refine gz_callV K hex (c_X10_fails K.2.2.2.2.2 K.2.2.1 hp) cf_X10_fails zq5_149 (by decide) (ce_43 _ _ _ _ _ _) rfl dX10_append_13 rfl rfl (Nat.le_of_ble_eq_true rfl) ⟨Nat.le_of_ble_eq_true rfl, Nat.le_of_ble_eq_true rfl⟩ ⟨Nat.le_of_ble_eq_true rfl, Nat.le_of_ble_eq_true rfl⟩ (Nat.le_of_ble_eq_true rfl) (Nat.le_of_ble_eq_true rfl) (fun _ _ h => h.elim) (fun r13 τ13 hp => ?_)
    refine gz_norm (st' := [.int r13]) (cells' := 0) (slots' := 0) rfl rfl rfl ?_
    exact gz_iret K hr hp dX10_append_16 (Nat.le_of_ble_eq_true rfl) (Nat.le_of_ble_eq_true rfl)
set_option maxRecDepth 100000 in
set_option maxHeartbeats 4000000 in
theorem c_X10_here {l : Launch} {D : va_G} {ad : Nat → Nat} {ty : Nat → ClassId} (hl : l.stackTraces = false) (hj : ∀ i j, i < 68 → j < 68 → ad i = ad j → i = j) {σ : Dz} {post : Int32 → Prop} (hp : P_X10_here σ post) : Mz l D ad ty yX10_here cX10_here 1 (some .int) r_X10_here nI0 σ [.ref (ad 43)] (fun r τ => σ = τ ∧ post r) (fun _ _ => False) := by
  refine mz_of (by decide) hl hj (Nat.le_of_ble_eq_true rfl) ?_
  intro p e s m args below meth c K hex hr
  unfold P_X10_here at hp
  show Gz p l e r_X10_here s m args below meth c D ad ty 1 0 0 (Ez below D ad ty nI0 (fun r τ => σ = τ ∧ post r) (fun _ _ => False) args s 0 0) σ 0 [(0, .ref (ad 43))] []
  refine gz_aload_n K dX10_here_0 0 rfl ?_
  refine gz_get K (v := .int (gz_i σ 43 18)) (by decide) (ce_43 _ _ _ _ _ _) rfl inz_X10 18 (by decide) zq5_49 rfl dX10_here_1 ?_
  refine gz_aload_n K dX10_here_4 0 rfl ?_
  refine gz_get K (v := .int (gz_i σ 43 8)) (by decide) (ce_43 _ _ _ _ _ _) rfl inz_X10 8 (by decide) zq5_39 rfl dX10_here_5 ?_
  refine gz_icmp_ge K 23 dX10_here_8 (by decide) (fun h => ?_) (fun h => ?_)
  · have hp := hp.1 h
    refine gz_iconst K (v := (0 : Int32)) dX10_here_23 (by decide) ?_
    exact gz_iret K hr ⟨rfl, hp⟩ dX10_here_24 (Nat.le_of_ble_eq_true rfl) (Nat.le_of_ble_eq_true rfl)
  · have hp := hp.2 h
    refine gz_aload_n K dX10_here_11 0 rfl ?_
    refine gz_get K (v := .ref (ad 49)) (by decide) (ce_43 _ _ _ _ _ _) rfl inz_X10 7 (by decide) zq5_38 rfl dX10_here_12 ?_
    refine gz_aload_n K dX10_here_15 0 rfl ?_
    refine gz_get K (v := .int (gz_i σ 43 18)) (by decide) (ce_43 _ _ _ _ _ _) rfl inz_X10 18 (by decide) zq5_49 rfl dX10_here_16 ?_
    obtain ⟨h, hp⟩ := hp
    refine gz_cald K (by decide) (ce_49 _ _ _ _ _ _) h dX10_here_19 ?_
    refine gz_goto K 24 dX10_here_20 (by decide) ?_
    exact gz_iret K hr ⟨rfl, hp⟩ dX10_here_24 (Nat.le_of_ble_eq_true rfl) (Nat.le_of_ble_eq_true rfl)
set_option maxRecDepth 100000 in
set_option maxHeartbeats 4000000 in
theorem c_X10_readsCycle {l : Launch} {D : va_G} {ad : Nat → Nat} {ty : Nat → ClassId} (hl : l.stackTraces = false) (hj : ∀ i j, i < 68 → j < 68 → ad i = ad j → i = j) {σ : Dz} {post : Int32 → Dz → Prop} (hp : P_X10_readsCycle σ post) : Mz l D ad ty yX10_readsCycle cX10_readsCycle 5 (some .boolean) r_X10_readsCycle nI0 σ [.ref (ad 43)] post (fun _ _ => False) := by
  refine mz_of (by decide) hl hj (Nat.le_of_ble_eq_true rfl) ?_
  intro p e s m args below meth c K hex hr
  unfold P_X10_readsCycle at hp
  have bb_99 : ∀ (σ : Dz) (y1 : Int32) (y2 : Int32) (y3 : Int32) , B_X10_readsCycle_99 post  σ y1 y2 y3 → Gz p l e r_X10_readsCycle s m args below meth c D ad ty 5 0 0 (Ez below D ad ty nI0 post (fun _ _ => False) args s 0 0) σ 99 [(0, .ref (ad 43)), (1, .int y1), (2, .int y2), (3, .int y3)] [] := by
    intro σ y1 y2 y3 hp
    unfold B_X10_readsCycle_99 at hp
    refine gz_iload_n K dX10_readsCycle_99 3 rfl ?_
    refine gz_iconst K (v := (2 : Int32)) dX10_readsCycle_100 (by decide) ?_
    refine gz_icmp_lt K 113 dX10_readsCycle_101 (by decide) (fun h => ?_) (fun h => ?_)
    · have hp := hp.1 h
      refine gz_iconst K (v := (0 : Int32)) dX10_readsCycle_113 (by decide) ?_
      exact gz_zret K hr (by decide) hp dX10_readsCycle_114 (Nat.le_of_ble_eq_true rfl) (Nat.le_of_ble_eq_true rfl)
    · have hp := hp.2 h
      refine gz_aload_n K dX10_readsCycle_104 0 rfl ?_
      refine gz_callV K hex (c_X10_here K.2.2.2.2.2 K.2.2.1 hp) cf_X10_here zq5_173 (by decide) (ce_43 _ _ _ _ _ _) rfl dX10_readsCycle_105 rfl rfl (Nat.le_of_ble_eq_true rfl) ⟨Nat.le_of_ble_eq_true rfl, Nat.le_of_ble_eq_true rfl⟩ ⟨Nat.le_of_ble_eq_true rfl, Nat.le_of_ble_eq_true rfl⟩ (Nat.le_of_ble_eq_true rfl) (Nat.le_of_ble_eq_true rfl) (fun _ _ h => h.elim) (fun r105 τ hp => ?_)
      obtain ⟨rfl, hp⟩ := hp
      refine gz_norm (st' := [.int r105]) (cells' := 0) (slots' := 0) rfl rfl rfl ?_
      refine gz_bipush K (v := (41 : Int32)) dX10_readsCycle_108 (by decide) ?_
      refine gz_icmp_eq K 115 dX10_readsCycle_110 (by decide) (fun h => ?_) (fun h => ?_)
      · have hp := hp.1 h
        refine gz_aload_n K dX10_readsCycle_115 0 rfl ?_
        refine gz_get K (v := .ref (ad 57)) (by decide) (ce_43 _ _ _ _ _ _) rfl inz_X10 19 (by decide) zq5_50 rfl dX10_readsCycle_116 ?_
        refine gz_iload_n K dX10_readsCycle_119 2 rfl ?_
        refine gz_iload_n K dX10_readsCycle_120 1 rfl ?_
        obtain ⟨h, hp⟩ := hp
        refine gz_iast K (x := y1) (by decide) (ce_57 ad ty) h dX10_readsCycle_121 ?_
        refine gz_aload_n K dX10_readsCycle_122 0 rfl ?_
        refine gz_dup K dX10_readsCycle_123 rfl ?_
        refine gz_get K (v := .int (gz_i (sz_i σ 57 (y2).toNatClampNeg y1) 43 18)) (by decide) (ce_43 _ _ _ _ _ _) rfl inz_X10 18 (by decide) zq5_49 rfl dX10_readsCycle_124 ?_
        refine gz_iconst K (v := (1 : Int32)) dX10_readsCycle_127 (by decide) ?_
        refine gz_iadd K dX10_readsCycle_128 ?_
        refine gz_put K (x := ((gz_i (sz_i σ 57 (y2).toNatClampNeg y1) 43 18) + (1 : Int32))) (by decide) (ce_43 _ _ _ _ _ _) rfl inz_X10 tyX10 tyX10_ok nmX10 18 (by decide) zq5_49 rfl (tyX10_ok _ (by decide)) rfl rfl (Nat.le_of_ble_eq_true rfl) peX10_18 dX10_readsCycle_129 ?_
        refine gz_iconst K (v := (1 : Int32)) dX10_readsCycle_132 (by decide) ?_
        exact gz_zret K hr (by decide) hp dX10_readsCycle_133 (Nat.le_of_ble_eq_true rfl) (Nat.le_of_ble_eq_true rfl)
      · have hp := hp.2 h
        refine gz_iconst K (v := (0 : Int32)) dX10_readsCycle_113 (by decide) ?_
        exact gz_zret K hr (by decide) hp dX10_readsCycle_114 (Nat.le_of_ble_eq_true rfl) (Nat.le_of_ble_eq_true rfl)
  show Gz p l e r_X10_readsCycle s m args below meth c D ad ty 5 0 0 (Ez below D ad ty nI0 post (fun _ _ => False) args s 0 0) σ 0 [(0, .ref (ad 43))] []
  refine gz_aload_n K dX10_readsCycle_0 0 rfl ?_
  refine gz_dup K dX10_readsCycle_1 rfl ?_
  refine gz_get K (v := .int (gz_i σ 43 18)) (by decide) (ce_43 _ _ _ _ _ _) rfl inz_X10 18 (by decide) zq5_49 rfl dX10_readsCycle_2 ?_
  refine gz_iconst K (v := (1 : Int32)) dX10_readsCycle_5 (by decide) ?_
  refine gz_iadd K dX10_readsCycle_6 ?_
  refine gz_put K (x := ((gz_i σ 43 18) + (1 : Int32))) (by decide) (ce_43 _ _ _ _ _ _) rfl inz_X10 tyX10 tyX10_ok nmX10 18 (by decide) zq5_49 rfl (tyX10_ok _ (by decide)) rfl rfl (Nat.le_of_ble_eq_true rfl) peX10_18 dX10_readsCycle_7 ?_
  refine gz_iconst K (v := (0 : Int32)) dX10_readsCycle_10 (by decide) ?_
  refine gz_istore_n K [(1, .int (0 : Int32)), (0, .ref (ad 43))] dX10_readsCycle_11 (by decide) rfl ?_
  refine gz_iconst K (v := (0 : Int32)) dX10_readsCycle_12 (by decide) ?_
  refine gz_istore_n K [(2, .int (0 : Int32)), (1, .int (0 : Int32)), (0, .ref (ad 43))] dX10_readsCycle_13 (by decide) rfl ?_
  refine gz_iconst K (v := (0 : Int32)) dX10_readsCycle_14 (by decide) ?_
  refine gz_istore_n K [(3, .int (0 : Int32)), (2, .int (0 : Int32)), (1, .int (0 : Int32)), (0, .ref (ad 43))] dX10_readsCycle_15 (by decide) rfl ?_
  refine gz_sub [3, 2, 1, 0] rfl ?_
  have ll_16 : ∀ (n_16 : Nat) (σ : Dz) (y1 : Int32) (y2 : Int32) (y3 : Int32) , L_X10_readsCycle_16 post  n_16 σ y1 y2 y3 → Gz p l e r_X10_readsCycle s m args below meth c D ad ty 5 0 0 (Ez below D ad ty nI0 post (fun _ _ => False) args s 0 0) σ 16 [(0, .ref (ad 43)), (1, .int y1), (2, .int y2), (3, .int y3)] [] := by
    intro n_16; induction n_16 with
    | zero => intro σ y1 y2 y3 hp; exact False.elim hp
    | succ n_16 ih_16 =>
      intro σ y1 y2 y3 hp
      have hp : B_X10_readsCycle_16 post  (L_X10_readsCycle_16 post  n_16) σ y1 y2 y3 := hp
      unfold B_X10_readsCycle_16 at hp
      have bb_80 : ∀ (σ : Dz) (y1 : Int32) (y3 : Int32) (y4 : Int32) , B_X10_readsCycle_80 post (L_X10_readsCycle_16 post  n_16) σ y1 y3 y4 → Gz p l e r_X10_readsCycle s m args below meth c D ad ty 5 0 0 (Ez below D ad ty nI0 post (fun _ _ => False) args s 0 0) σ 80 [(0, .ref (ad 43)), (1, .int y1), (3, .int y3), (4, .int y4)] [] := by
        intro σ y1 y3 y4 hp
        unfold B_X10_readsCycle_80 at hp
        refine gz_iload K dX10_readsCycle_80 3 rfl ?_
        refine gz_istore_n K [(2, .int y4), (0, .ref (ad 43)), (1, .int y1), (3, .int y3), (4, .int y4)] dX10_readsCycle_82 (by decide) rfl ?_
        refine gz_iinc K (v := (y3 + 1)) [(3, .int (y3 + 1)), (2, .int y4), (0, .ref (ad 43)), (1, .int y1), (4, .int y4)] dX10_readsCycle_83 3 rfl (by first | rfl | decide) (by decide) rfl ?_
        refine gz_aload_n K dX10_readsCycle_86 2 rfl ?_
        refine gz_dup K dX10_readsCycle_87 rfl ?_
        refine gz_get K (v := .int (gz_i σ 43 18)) (by decide) (ce_43 _ _ _ _ _ _) rfl inz_X10 18 (by decide) zq5_49 rfl dX10_readsCycle_88 ?_
        refine gz_iconst K (v := (1 : Int32)) dX10_readsCycle_91 (by decide) ?_
        refine gz_iadd K dX10_readsCycle_92 ?_
        refine gz_put K (x := ((gz_i σ 43 18) + (1 : Int32))) (by decide) (ce_43 _ _ _ _ _ _) rfl inz_X10 tyX10 tyX10_ok nmX10 18 (by decide) zq5_49 rfl (tyX10_ok _ (by decide)) rfl rfl (Nat.le_of_ble_eq_true rfl) peX10_18 dX10_readsCycle_93 ?_
        refine gz_goto K 16 dX10_readsCycle_96 (by decide) ?_
        refine gz_sub [2, 3, 1, 0] rfl ?_
        exact ih_16 (sz_i σ 43 18 ((gz_i σ 43 18) + (1 : Int32))) y1 y4 (y3 + 1)  hp
      refine gz_aload_n K dX10_readsCycle_16 0 rfl ?_
      refine gz_aload_n K dX10_readsCycle_17 0 rfl ?_
      refine gz_callV K hex (c_X10_here K.2.2.2.2.2 K.2.2.1 hp) cf_X10_here zq5_173 (by decide) (ce_43 _ _ _ _ _ _) rfl dX10_readsCycle_18 rfl rfl (Nat.le_of_ble_eq_true rfl) ⟨Nat.le_of_ble_eq_true rfl, Nat.le_of_ble_eq_true rfl⟩ ⟨Nat.le_of_ble_eq_true rfl, Nat.le_of_ble_eq_true rfl⟩ (Nat.le_of_ble_eq_true rfl) (Nat.le_of_ble_eq_true rfl) (fun _ _ h => h.elim) (fun r18 τ hp => ?_)
      obtain ⟨rfl, hp⟩ := hp
      refine gz_norm (st' := [.int r18, .ref (ad 43)]) (cells' := 0) (slots' := 0) rfl rfl rfl ?_
      refine gz_bipush K (v := (48 : Int32)) dX10_readsCycle_21 (by decide) ?_
      refine gz_isub K dX10_readsCycle_23 ?_
      refine gz_callV K hex (c_X10_isPosition K.2.2.2.2.2 K.2.2.1 hp) cf_X10_isPosition zq5_181 (by decide) (ce_43 _ _ _ _ _ _) rfl dX10_readsCycle_24 rfl rfl (Nat.le_of_ble_eq_true rfl) ⟨Nat.le_of_ble_eq_true rfl, Nat.le_of_ble_eq_true rfl⟩ ⟨Nat.le_of_ble_eq_true rfl, Nat.le_of_ble_eq_true rfl⟩ (Nat.le_of_ble_eq_true rfl) (Nat.le_of_ble_eq_true rfl) (fun _ _ h => h.elim) (fun r24 τ hp => ?_)
      obtain ⟨rfl, hp⟩ := hp
      refine gz_norm (st' := [.int r24]) (cells' := 0) (slots' := 0) rfl rfl rfl ?_
      refine gz_if_eq K 99 dX10_readsCycle_27 (by decide) (fun h => ?_) (fun h => ?_)
      · have hp := hp.1 h
        exact bb_99 σ y1 y2 y3  hp
      · have hp := hp.2 h
        refine gz_aload_n K dX10_readsCycle_30 0 rfl ?_
        refine gz_get K (v := .ref (ad 58)) (by decide) (ce_43 _ _ _ _ _ _) rfl inz_X10 20 (by decide) zq5_51 rfl dX10_readsCycle_31 ?_
        refine gz_aload_n K dX10_readsCycle_34 0 rfl ?_
        refine gz_callV K hex (c_X10_here K.2.2.2.2.2 K.2.2.1 hp) cf_X10_here zq5_173 (by decide) (ce_43 _ _ _ _ _ _) rfl dX10_readsCycle_35 rfl rfl (Nat.le_of_ble_eq_true rfl) ⟨Nat.le_of_ble_eq_true rfl, Nat.le_of_ble_eq_true rfl⟩ ⟨Nat.le_of_ble_eq_true rfl, Nat.le_of_ble_eq_true rfl⟩ (Nat.le_of_ble_eq_true rfl) (Nat.le_of_ble_eq_true rfl) (fun _ _ h => h.elim) (fun r35 τ hp => ?_)
        obtain ⟨rfl, hp⟩ := hp
        refine gz_norm (st' := [.int r35, .ref (ad 58)]) (cells' := 0) (slots' := 0) rfl rfl rfl ?_
        refine gz_bipush K (v := (48 : Int32)) dX10_readsCycle_38 (by decide) ?_
        refine gz_isub K dX10_readsCycle_40 ?_
        obtain ⟨h, hp⟩ := hp
        refine gz_zald K (by decide) (ce_58 _ _ _ _ _ _) h dX10_readsCycle_41 ?_
        refine gz_if_ne K 99 dX10_readsCycle_42 (by decide) (fun h => ?_) (fun h => ?_)
        · have hp := hp.1 h
          exact bb_99 σ y1 y2 y3  hp
        · have hp := hp.2 h
          refine gz_aload_n K dX10_readsCycle_45 0 rfl ?_
          refine gz_callV K hex (c_X10_here K.2.2.2.2.2 K.2.2.1 hp) cf_X10_here zq5_173 (by decide) (ce_43 _ _ _ _ _ _) rfl dX10_readsCycle_46 rfl rfl (Nat.le_of_ble_eq_true rfl) ⟨Nat.le_of_ble_eq_true rfl, Nat.le_of_ble_eq_true rfl⟩ ⟨Nat.le_of_ble_eq_true rfl, Nat.le_of_ble_eq_true rfl⟩ (Nat.le_of_ble_eq_true rfl) (Nat.le_of_ble_eq_true rfl) (fun _ _ h => h.elim) (fun r46 τ hp => ?_)
          obtain ⟨rfl, hp⟩ := hp
          refine gz_norm (st' := [.int r46]) (cells' := 0) (slots' := 0) rfl rfl rfl ?_
          refine gz_bipush K (v := (48 : Int32)) dX10_readsCycle_49 (by decide) ?_
          refine gz_isub K dX10_readsCycle_51 ?_
          refine gz_istore K [(4, .int (r46 - (48 : Int32))), (0, .ref (ad 43)), (1, .int y1), (2, .int y2), (3, .int y3)] dX10_readsCycle_52 (by decide) rfl ?_
          refine gz_aload_n K dX10_readsCycle_54 1 rfl ?_
          refine gz_get K (v := .ref (ad 58)) (by decide) (ce_43 _ _ _ _ _ _) rfl inz_X10 20 (by decide) zq5_51 rfl dX10_readsCycle_55 ?_
          refine gz_iload K dX10_readsCycle_58 0 rfl ?_
          refine gz_iconst K (v := (1 : Int32)) dX10_readsCycle_60 (by decide) ?_
          obtain ⟨h, hp⟩ := hp
          refine gz_zastB K (x := (1 : Int32)) (by decide) (ce_58 ad ty) h (by decide) dX10_readsCycle_61 ?_
          refine gz_iload_n K dX10_readsCycle_62 4 rfl ?_
          refine gz_if_ne K 72 dX10_readsCycle_63 (by decide) (fun h => ?_) (fun h => ?_)
          · have hp := hp.1 h
            refine gz_aload_n K dX10_readsCycle_72 1 rfl ?_
            refine gz_get K (v := .ref (ad 57)) (by decide) (ce_43 _ _ _ _ _ _) rfl inz_X10 19 (by decide) zq5_50 rfl dX10_readsCycle_73 ?_
            refine gz_iload_n K dX10_readsCycle_76 3 rfl ?_
            refine gz_iload K dX10_readsCycle_77 0 rfl ?_
            obtain ⟨h, hp⟩ := hp
            refine gz_iast K (x := (r46 - (48 : Int32))) (by decide) (ce_57 ad ty) h dX10_readsCycle_79 ?_
            refine gz_sub [1, 2, 4, 0] rfl ?_
            exact bb_80 (sz_i (sz_i σ 58 ((r46 - (48 : Int32))).toNatClampNeg (1 : Int32)) 57 (y2).toNatClampNeg (r46 - (48 : Int32))) y1 y3 (r46 - (48 : Int32))  hp
          · have hp := hp.2 h
            refine gz_iload K dX10_readsCycle_66 0 rfl ?_
            refine gz_istore_n K [(1, .int (r46 - (48 : Int32))), (4, .int (r46 - (48 : Int32))), (0, .ref (ad 43)), (2, .int y2), (3, .int y3)] dX10_readsCycle_68 (by decide) rfl ?_
            refine gz_goto K 80 dX10_readsCycle_69 (by decide) ?_
            refine gz_sub [2, 0, 4, 1] rfl ?_
            exact bb_80 (sz_i σ 58 ((r46 - (48 : Int32))).toNatClampNeg (1 : Int32)) (r46 - (48 : Int32)) y3 (r46 - (48 : Int32))  hp
  obtain ⟨n, hp⟩ := hp
  exact ll_16 n (sz_i σ 43 18 ((gz_i σ 43 18) + (1 : Int32))) (0 : Int32) (0 : Int32) (0 : Int32)  hp
set_option maxRecDepth 100000 in
set_option maxHeartbeats 4000000 in
theorem c_X10_readsCycles {l : Launch} {D : va_G} {ad : Nat → Nat} {ty : Nat → ClassId} (hl : l.stackTraces = false) (hj : ∀ i j, i < 68 → j < 68 → ad i = ad j → i = j) {σ : Dz} {post : Int32 → Dz → Prop} (hp : P_X10_readsCycles σ post) : Mz l D ad ty yX10_readsCycles cX10_readsCycles 2 (some .boolean) r_X10_readsCycles nI0 σ [.ref (ad 43)] post (fun _ _ => False) := by
  refine mz_of (by decide) hl hj (Nat.le_of_ble_eq_true rfl) ?_
  intro p e s m args below meth c K hex hr
  unfold P_X10_readsCycles at hp
  have bb_56 : ∀ (σ : Dz) (y1 : Int32) , B_X10_readsCycles_56 post  σ y1 → Gz p l e r_X10_readsCycles s m args below meth c D ad ty 2 0 0 (Ez below D ad ty nI0 post (fun _ _ => False) args s 0 0) σ 56 [(0, .ref (ad 43)), (1, .int y1)] [] := by
    intro σ y1 hp
    unfold B_X10_readsCycles_56 at hp
    refine gz_iload_n K dX10_readsCycles_56 1 rfl ?_
    refine gz_if_eq K 75 dX10_readsCycles_57 (by decide) (fun h => ?_) (fun h => ?_)
    · have hp := hp.1 h
      refine gz_iconst K (v := (0 : Int32)) dX10_readsCycles_75 (by decide) ?_
      exact gz_zret K hr (by decide) hp dX10_readsCycles_76 (Nat.le_of_ble_eq_true rfl) (Nat.le_of_ble_eq_true rfl)
    · have hp := hp.2 h
      refine gz_aload_n K dX10_readsCycles_60 0 rfl ?_
      refine gz_get K (v := .int (gz_i σ 43 18)) (by decide) (ce_43 _ _ _ _ _ _) rfl inz_X10 18 (by decide) zq5_49 rfl dX10_readsCycles_61 ?_
      refine gz_aload_n K dX10_readsCycles_64 0 rfl ?_
      refine gz_get K (v := .int (gz_i σ 43 8)) (by decide) (ce_43 _ _ _ _ _ _) rfl inz_X10 8 (by decide) zq5_39 rfl dX10_readsCycles_65 ?_
      refine gz_icmp_ne K 75 dX10_readsCycles_68 (by decide) (fun h => ?_) (fun h => ?_)
      · have hp := hp.1 h
        refine gz_iconst K (v := (0 : Int32)) dX10_readsCycles_75 (by decide) ?_
        exact gz_zret K hr (by decide) hp dX10_readsCycles_76 (Nat.le_of_ble_eq_true rfl) (Nat.le_of_ble_eq_true rfl)
      · have hp := hp.2 h
        refine gz_iconst K (v := (1 : Int32)) dX10_readsCycles_71 (by decide) ?_
        refine gz_goto K 76 dX10_readsCycles_72 (by decide) ?_
        exact gz_zret K hr (by decide) hp dX10_readsCycles_76 (Nat.le_of_ble_eq_true rfl) (Nat.le_of_ble_eq_true rfl)
  show Gz p l e r_X10_readsCycles s m args below meth c D ad ty 2 0 0 (Ez below D ad ty nI0 post (fun _ _ => False) args s 0 0) σ 0 [(0, .ref (ad 43))] []
  refine gz_aload_n K dX10_readsCycles_0 0 rfl ?_
  refine gz_iconst K (v := (0 : Int32)) dX10_readsCycles_1 (by decide) ?_
  refine gz_put K (x := (0 : Int32)) (by decide) (ce_43 _ _ _ _ _ _) rfl inz_X10 tyX10 tyX10_ok nmX10 18 (by decide) zq5_49 rfl (tyX10_ok _ (by decide)) rfl rfl (Nat.le_of_ble_eq_true rfl) peX10_18 dX10_readsCycles_2 ?_
  refine gz_iconst K (v := (0 : Int32)) dX10_readsCycles_5 (by decide) ?_
  refine gz_istore_n K [(1, .int (0 : Int32)), (0, .ref (ad 43))] dX10_readsCycles_6 (by decide) rfl ?_
  refine gz_sub [1, 0] rfl ?_
  have ll_7 : ∀ (n_7 : Nat) (σ : Dz) (y1 : Int32) , L_X10_readsCycles_7 post  n_7 σ y1 → Gz p l e r_X10_readsCycles s m args below meth c D ad ty 2 0 0 (Ez below D ad ty nI0 post (fun _ _ => False) args s 0 0) σ 7 [(0, .ref (ad 43)), (1, .int y1)] [] := by
    intro n_7; induction n_7 with
    | zero => intro σ y1 hp; exact False.elim hp
    | succ n_7 ih_7 =>
      intro σ y1 hp
      have hp : B_X10_readsCycles_7 post  (L_X10_readsCycles_7 post  n_7) σ y1 := hp
      unfold B_X10_readsCycles_7 at hp
      refine gz_iload_n K dX10_readsCycles_7 1 rfl ?_
      refine gz_bipush K (v := (8 : Int32)) dX10_readsCycles_8 (by decide) ?_
      refine gz_icmp_ge K 33 dX10_readsCycles_10 (by decide) (fun h => ?_) (fun h => ?_)
      · have hp := hp.1 h
        refine gz_iconst K (v := (1 : Int32)) dX10_readsCycles_33 (by decide) ?_
        refine gz_istore_n K [(1, .int (1 : Int32)), (0, .ref (ad 43))] dX10_readsCycles_34 (by decide) rfl ?_
        refine gz_sub [1, 0] rfl ?_
        have ll_35 : ∀ (n_35 : Nat) (σ : Dz) (y1 : Int32) , L_X10_readsCycles_35 post  n_35 σ y1 → Gz p l e r_X10_readsCycles s m args below meth c D ad ty 2 0 0 (Ez below D ad ty nI0 post (fun _ _ => False) args s 0 0) σ 35 [(0, .ref (ad 43)), (1, .int y1)] [] := by
          intro n_35; induction n_35 with
          | zero => intro σ y1 hp; exact False.elim hp
          | succ n_35 ih_35 =>
            intro σ y1 hp
            have hp : B_X10_readsCycles_35 post  (L_X10_readsCycles_35 post  n_35) σ y1 := hp
            unfold B_X10_readsCycles_35 at hp
            refine gz_iload_n K dX10_readsCycles_35 1 rfl ?_
            refine gz_if_eq K 56 dX10_readsCycles_36 (by decide) (fun h => ?_) (fun h => ?_)
            · have hp := hp.1 h
              exact bb_56 σ y1  hp
            · have hp := hp.2 h
              refine gz_aload_n K dX10_readsCycles_39 0 rfl ?_
              refine gz_callV K hex (c_X10_here K.2.2.2.2.2 K.2.2.1 hp) cf_X10_here zq5_173 (by decide) (ce_43 _ _ _ _ _ _) rfl dX10_readsCycles_40 rfl rfl (Nat.le_of_ble_eq_true rfl) ⟨Nat.le_of_ble_eq_true rfl, Nat.le_of_ble_eq_true rfl⟩ ⟨Nat.le_of_ble_eq_true rfl, Nat.le_of_ble_eq_true rfl⟩ (Nat.le_of_ble_eq_true rfl) (Nat.le_of_ble_eq_true rfl) (fun _ _ h => h.elim) (fun r40 τ hp => ?_)
              obtain ⟨rfl, hp⟩ := hp
              refine gz_norm (st' := [.int r40]) (cells' := 0) (slots' := 0) rfl rfl rfl ?_
              refine gz_bipush K (v := (40 : Int32)) dX10_readsCycles_43 (by decide) ?_
              refine gz_icmp_ne K 56 dX10_readsCycles_45 (by decide) (fun h => ?_) (fun h => ?_)
              · have hp := hp.1 h
                exact bb_56 σ y1  hp
              · have hp := hp.2 h
                refine gz_aload_n K dX10_readsCycles_48 0 rfl ?_
                refine gz_callV K hex (c_X10_readsCycle K.2.2.2.2.2 K.2.2.1 hp) cf_X10_readsCycle zq5_177 (by decide) (ce_43 _ _ _ _ _ _) rfl dX10_readsCycles_49 rfl rfl (Nat.le_of_ble_eq_true rfl) ⟨Nat.le_of_ble_eq_true rfl, Nat.le_of_ble_eq_true rfl⟩ ⟨Nat.le_of_ble_eq_true rfl, Nat.le_of_ble_eq_true rfl⟩ (Nat.le_of_ble_eq_true rfl) (Nat.le_of_ble_eq_true rfl) (fun _ _ h => h.elim) (fun r49 τ49 hp => ?_)
                refine gz_norm (st' := [.int r49]) (cells' := 0) (slots' := 0) rfl rfl rfl ?_
                refine gz_istore_n K [(1, .int r49), (0, .ref (ad 43))] dX10_readsCycles_52 (by decide) rfl ?_
                refine gz_goto K 35 dX10_readsCycles_53 (by decide) ?_
                refine gz_sub [1, 0] rfl ?_
                exact ih_35 τ49 r49  hp
        obtain ⟨n, hp⟩ := hp
        exact ll_35 n σ (1 : Int32)  hp
      · have hp := hp.2 h
        refine gz_aload_n K dX10_readsCycles_13 0 rfl ?_
        refine gz_get K (v := .ref (ad 57)) (by decide) (ce_43 _ _ _ _ _ _) rfl inz_X10 19 (by decide) zq5_50 rfl dX10_readsCycles_14 ?_
        refine gz_iload_n K dX10_readsCycles_17 1 rfl ?_
        refine gz_iload_n K dX10_readsCycles_18 1 rfl ?_
        obtain ⟨h, hp⟩ := hp
        refine gz_iast K (x := y1) (by decide) (ce_57 ad ty) h dX10_readsCycles_19 ?_
        refine gz_aload_n K dX10_readsCycles_20 0 rfl ?_
        refine gz_get K (v := .ref (ad 58)) (by decide) (ce_43 _ _ _ _ _ _) rfl inz_X10 20 (by decide) zq5_51 rfl dX10_readsCycles_21 ?_
        refine gz_iload_n K dX10_readsCycles_24 1 rfl ?_
        refine gz_iconst K (v := (0 : Int32)) dX10_readsCycles_25 (by decide) ?_
        obtain ⟨h, hp⟩ := hp
        refine gz_zastB K (x := (0 : Int32)) (by decide) (ce_58 ad ty) h (by decide) dX10_readsCycles_26 ?_
        refine gz_iinc K (v := (y1 + 1)) [(1, .int (y1 + 1)), (0, .ref (ad 43))] dX10_readsCycles_27 1 rfl (by first | rfl | decide) (by decide) rfl ?_
        refine gz_goto K 7 dX10_readsCycles_30 (by decide) ?_
        refine gz_sub [1, 0] rfl ?_
        exact ih_7 (sz_i (sz_i σ 57 (y1).toNatClampNeg y1) 58 (y1).toNatClampNeg (0 : Int32)) (y1 + 1)  hp
  obtain ⟨n, hp⟩ := hp
  exact ll_7 n (sz_i σ 43 18 (0 : Int32)) (0 : Int32)  hp
set_option maxRecDepth 100000 in
set_option maxHeartbeats 4000000 in
theorem c_X10_define {l : Launch} {D : va_G} {ad : Nat → Nat} {ty : Nat → ClassId} (hl : l.stackTraces = false) (hj : ∀ i j, i < 68 → j < 68 → ad i = ad j → i = j) {σ : Dz} {x1 : Int32} {post : Int32 → Dz → Prop} (hp : P_X10_define σ x1 post) : Mz l D ad ty yX10_define cX10_define 5 (some .int) r_X10_define nI0 σ [.ref (ad 43), .int x1] post (fun _ _ => False) := by
  refine mz_of (by decide) hl hj (Nat.le_of_ble_eq_true rfl) ?_
  intro p e s m args below meth c K hex hr
  unfold P_X10_define at hp
  show Gz p l e r_X10_define s m args below meth c D ad ty 5 0 0 (Ez below D ad ty nI0 post (fun _ _ => False) args s 0 0) σ 0 [(0, .ref (ad 43)), (1, .int x1)] []
  refine gz_iload_n K dX10_define_0 1 rfl ?_
  refine gz_iconst K (v := (0 : Int32)) dX10_define_1 (by decide) ?_
  refine gz_iconst K (v := (4 : Int32)) dX10_define_2 (by decide) ?_
  refine gz_callS K hex (c_X10_in K.2.2.2.2.2 K.2.2.1 hp) cf_X10_in zq5_146 dX10_define_3 rfl rfl (Nat.le_of_ble_eq_true rfl) ⟨Nat.le_of_ble_eq_true rfl, Nat.le_of_ble_eq_true rfl⟩ ⟨Nat.le_of_ble_eq_true rfl, Nat.le_of_ble_eq_true rfl⟩ (Nat.le_of_ble_eq_true rfl) (Nat.le_of_ble_eq_true rfl) (fun _ _ h => h.elim) (fun r3 τ hp => ?_)
  obtain ⟨rfl, hp⟩ := hp
  refine gz_norm (st' := [.int r3]) (cells' := 0) (slots' := 0) rfl rfl rfl ?_
  refine gz_if_ne K 15 dX10_define_6 (by decide) (fun h => ?_) (fun h => ?_)
  · have hp := hp.1 h
    refine gz_aload_n K dX10_define_15 0 rfl ?_
    refine gz_callV K hex (c_X10_readsCycles K.2.2.2.2.2 K.2.2.1 hp) cf_X10_readsCycles zq5_169 (by decide) (ce_43 _ _ _ _ _ _) rfl dX10_define_16 rfl rfl (Nat.le_of_ble_eq_true rfl) ⟨Nat.le_of_ble_eq_true rfl, Nat.le_of_ble_eq_true rfl⟩ ⟨Nat.le_of_ble_eq_true rfl, Nat.le_of_ble_eq_true rfl⟩ (Nat.le_of_ble_eq_true rfl) (Nat.le_of_ble_eq_true rfl) (fun _ _ h => h.elim) (fun r16 τ16 hp => ?_)
    refine gz_norm (st' := [.int r16]) (cells' := 0) (slots' := 0) rfl rfl rfl ?_
    refine gz_istore_n K [(2, .int r16), (0, .ref (ad 43)), (1, .int x1)] dX10_define_19 (by decide) rfl ?_
    refine gz_aload_n K dX10_define_20 1 rfl ?_
    refine gz_iconst K (v := (0 : Int32)) dX10_define_21 (by decide) ?_
    refine gz_put K (x := (0 : Int32)) (by decide) (ce_43 _ _ _ _ _ _) rfl inz_X10 tyX10 tyX10_ok nmX10 8 (by decide) zq5_39 rfl (tyX10_ok _ (by decide)) rfl rfl (Nat.le_of_ble_eq_true rfl) peX10_8 dX10_define_22 ?_
    refine gz_iload_n K dX10_define_25 0 rfl ?_
    refine gz_if_ne K 43 dX10_define_26 (by decide) (fun h => ?_) (fun h => ?_)
    · have hp := hp.1 h
      refine gz_aload_n K dX10_define_43 1 rfl ?_
      refine gz_get K (v := .ref (ad 45)) (by decide) (ce_43 _ _ _ _ _ _) rfl inz_X10 3 (by decide) zq5_34 rfl dX10_define_44 ?_
      refine gz_iload_n K dX10_define_47 2 rfl ?_
      refine gz_iconst K (v := (1 : Int32)) dX10_define_48 (by decide) ?_
      obtain ⟨h, hp⟩ := hp
      refine gz_zastB K (x := (1 : Int32)) (by decide) (ce_45 ad ty) h (by decide) dX10_define_49 ?_
      refine gz_aload_n K dX10_define_50 1 rfl ?_
      refine gz_iconst K (v := (0 : Int32)) dX10_define_51 (by decide) ?_
      refine gz_put K (x := (0 : Int32)) (by decide) (ce_43 _ _ _ _ _ _) rfl inz_X10 tyX10 tyX10_ok nmX10 27 (by decide) zq5_58 rfl (tyX10_ok _ (by decide)) rfl rfl (Nat.le_of_ble_eq_true rfl) peX10_27 dX10_define_52 ?_
      refine gz_iconst K (v := (0 : Int32)) dX10_define_55 (by decide) ?_
      refine gz_istore_n K [(3, .int (0 : Int32)), (2, .int r16), (0, .ref (ad 43)), (1, .int x1)] dX10_define_56 (by decide) rfl ?_
      refine gz_iconst K (v := (0 : Int32)) dX10_define_57 (by decide) ?_
      refine gz_istore K [(4, .int (0 : Int32)), (3, .int (0 : Int32)), (2, .int r16), (0, .ref (ad 43)), (1, .int x1)] dX10_define_58 (by decide) rfl ?_
      refine gz_sub [3, 4, 1, 0] rfl ?_
      have ll_60 : ∀ (n_60 : Nat) (σ : Dz) (y1 : Int32) (y3 : Int32) (y4 : Int32) , L_X10_define_60 post  n_60 σ y1 y3 y4 → Gz p l e r_X10_define s m args below meth c D ad ty 5 0 0 (Ez below D ad ty nI0 post (fun _ _ => False) args s 0 0) σ 60 [(0, .ref (ad 43)), (1, .int y1), (3, .int y3), (4, .int y4)] [] := by
        intro n_60; induction n_60 with
        | zero => intro σ y1 y3 y4 hp; exact False.elim hp
        | succ n_60 ih_60 =>
          intro σ y1 y3 y4 hp
          have hp : B_X10_define_60 post  (L_X10_define_60 post  n_60) σ y1 y3 y4 := hp
          unfold B_X10_define_60 at hp
          have bb_126 : ∀ (σ : Dz) (y1 : Int32) (y4 : Int32) (z0 : Int32) (z1 : Int32) , B_X10_define_126 post (L_X10_define_60 post  n_60) σ y1 y4 z0 z1 → Gz p l e r_X10_define s m args below meth c D ad ty 5 0 0 (Ez below D ad ty nI0 post (fun _ _ => False) args s 0 0) σ 126 [(0, .ref (ad 43)), (1, .int y1), (4, .int y4)] [.int z0, .int z1] := by
            intro σ y1 y4 z0 z1 hp
            unfold B_X10_define_126 at hp
            refine gz_iadd K dX10_define_126 ?_
            refine gz_istore_n K [(3, .int (z1 + z0)), (0, .ref (ad 43)), (1, .int y1), (4, .int y4)] dX10_define_127 (by decide) rfl ?_
            refine gz_iinc K (v := (y4 + 1)) [(4, .int (y4 + 1)), (3, .int (z1 + z0)), (0, .ref (ad 43)), (1, .int y1)] dX10_define_128 3 rfl (by first | rfl | decide) (by decide) rfl ?_
            refine gz_goto K 60 dX10_define_131 (by decide) ?_
            refine gz_sub [2, 3, 1, 0] rfl ?_
            exact ih_60 σ y1 (z1 + z0) (y4 + 1)  hp
          refine gz_iload K dX10_define_60 3 rfl ?_
          refine gz_bipush K (v := (8 : Int32)) dX10_define_62 (by decide) ?_
          refine gz_icmp_ge K 134 dX10_define_64 (by decide) (fun h => ?_) (fun h => ?_)
          · have hp := hp.1 h
            refine gz_aload_n K dX10_define_134 0 rfl ?_
            refine gz_iload_n K dX10_define_135 2 rfl ?_
            refine gz_callV K hex (c_X10_done K.2.2.2.2.2 K.2.2.1 hp) cf_X10_done zq5_153 (by decide) (ce_43 _ _ _ _ _ _) rfl dX10_define_136 rfl rfl (Nat.le_of_ble_eq_true rfl) ⟨Nat.le_of_ble_eq_true rfl, Nat.le_of_ble_eq_true rfl⟩ ⟨Nat.le_of_ble_eq_true rfl, Nat.le_of_ble_eq_true rfl⟩ (Nat.le_of_ble_eq_true rfl) (Nat.le_of_ble_eq_true rfl) (fun _ _ h => h.elim) (fun r136 τ136 hp => ?_)
            refine gz_norm (st' := [.int r136]) (cells' := 0) (slots' := 0) rfl rfl rfl ?_
            exact gz_iret K hr hp dX10_define_139 (Nat.le_of_ble_eq_true rfl) (Nat.le_of_ble_eq_true rfl)
          · have hp := hp.2 h
            refine gz_aload_n K dX10_define_67 0 rfl ?_
            refine gz_get K (v := .ref (ad 46)) (by decide) (ce_43 _ _ _ _ _ _) rfl inz_X10 4 (by decide) zq5_35 rfl dX10_define_68 ?_
            refine gz_bipush K (v := (16 : Int32)) dX10_define_71 (by decide) ?_
            refine gz_iload_n K dX10_define_73 1 rfl ?_
            refine gz_imul K dX10_define_74 ?_
            refine gz_iload K dX10_define_75 3 rfl ?_
            refine gz_iadd K dX10_define_77 ?_
            refine gz_aload_n K dX10_define_78 0 rfl ?_
            refine gz_get K (v := .ref (ad 57)) (by decide) (ce_43 _ _ _ _ _ _) rfl inz_X10 19 (by decide) zq5_50 rfl dX10_define_79 ?_
            refine gz_iload K dX10_define_82 3 rfl ?_
            obtain ⟨h, hp⟩ := hp
            refine gz_iald K (by decide) (ce_57 _ _ _ _ _ _) h dX10_define_84 ?_
            obtain ⟨h, hp⟩ := hp
            refine gz_iast K (x := (gz_i σ 57 (y4).toNatClampNeg)) (by decide) (ce_46 ad ty) h dX10_define_85 ?_
            refine gz_aload_n K dX10_define_86 0 rfl ?_
            refine gz_get K (v := .ref (ad 46)) (by decide) (ce_43 _ _ _ _ _ _) rfl inz_X10 4 (by decide) zq5_35 rfl dX10_define_87 ?_
            refine gz_bipush K (v := (16 : Int32)) dX10_define_90 (by decide) ?_
            refine gz_iload_n K dX10_define_92 1 rfl ?_
            refine gz_imul K dX10_define_93 ?_
            refine gz_bipush K (v := (8 : Int32)) dX10_define_94 (by decide) ?_
            refine gz_iadd K dX10_define_96 ?_
            refine gz_aload_n K dX10_define_97 0 rfl ?_
            refine gz_get K (v := .ref (ad 57)) (by decide) (ce_43 _ _ _ _ _ _) rfl inz_X10 19 (by decide) zq5_50 rfl dX10_define_98 ?_
            refine gz_iload K dX10_define_101 3 rfl ?_
            obtain ⟨h, hp⟩ := hp
            refine gz_iald K (by decide) (ce_57 _ _ _ _ _ _) h dX10_define_103 ?_
            refine gz_iadd K dX10_define_104 ?_
            refine gz_iload K dX10_define_105 3 rfl ?_
            obtain ⟨h, hp⟩ := hp
            refine gz_iast K (x := y4) (by decide) (ce_46 ad ty) h dX10_define_107 ?_
            refine gz_iload_n K dX10_define_108 2 rfl ?_
            refine gz_aload_n K dX10_define_109 0 rfl ?_
            refine gz_get K (v := .ref (ad 57)) (by decide) (ce_43 _ _ _ _ _ _) rfl inz_X10 19 (by decide) zq5_50 rfl dX10_define_110 ?_
            refine gz_iload K dX10_define_113 3 rfl ?_
            obtain ⟨h, hp⟩ := hp
            refine gz_iald K (by decide) (ce_57 _ _ _ _ _ _) h dX10_define_115 ?_
            refine gz_iload K dX10_define_116 3 rfl ?_
            refine gz_icmp_eq K 125 dX10_define_118 (by decide) (fun h => ?_) (fun h => ?_)
            · have hp := hp.1 h
              refine gz_iconst K (v := (0 : Int32)) dX10_define_125 (by decide) ?_
              refine gz_sub [0, 1, 3] rfl ?_
              exact bb_126 (sz_i (sz_i σ 46 ((((16 : Int32) * y1) + y4)).toNatClampNeg (gz_i σ 57 (y4).toNatClampNeg)) 46 (((((16 : Int32) * y1) + (8 : Int32)) + (gz_i (sz_i σ 46 ((((16 : Int32) * y1) + y4)).toNatClampNeg (gz_i σ 57 (y4).toNatClampNeg)) 57 (y4).toNatClampNeg))).toNatClampNeg y4) y1 y4 (0 : Int32) y3  hp
            · have hp := hp.2 h
              refine gz_iconst K (v := (1 : Int32)) dX10_define_121 (by decide) ?_
              refine gz_goto K 126 dX10_define_122 (by decide) ?_
              refine gz_sub [0, 1, 3] rfl ?_
              exact bb_126 (sz_i (sz_i σ 46 ((((16 : Int32) * y1) + y4)).toNatClampNeg (gz_i σ 57 (y4).toNatClampNeg)) 46 (((((16 : Int32) * y1) + (8 : Int32)) + (gz_i (sz_i σ 46 ((((16 : Int32) * y1) + y4)).toNatClampNeg (gz_i σ 57 (y4).toNatClampNeg)) 57 (y4).toNatClampNeg))).toNatClampNeg y4) y1 y4 (1 : Int32) y3  hp
      obtain ⟨n, hp⟩ := hp
      exact ll_60 n (sz_i (sz_i (sz_i τ16 43 8 (0 : Int32)) 45 (x1).toNatClampNeg (1 : Int32)) 43 27 (0 : Int32)) x1 (0 : Int32) (0 : Int32)  hp
    · have hp := hp.2 h
      refine gz_aload_n K dX10_define_29 1 rfl ?_
      refine gz_aload_n K dX10_define_30 1 rfl ?_
      refine gz_get K (v := .int (gz_i (sz_i τ16 43 8 (0 : Int32)) 43 18)) (by decide) (ce_43 _ _ _ _ _ _) rfl inz_X10 18 (by decide) zq5_49 rfl dX10_define_31 ?_
      refine gz_put K (x := (gz_i (sz_i τ16 43 8 (0 : Int32)) 43 18)) (by decide) (ce_43 _ _ _ _ _ _) rfl inz_X10 tyX10 tyX10_ok nmX10 9 (by decide) zq5_40 rfl (tyX10_ok _ (by decide)) rfl rfl (Nat.le_of_ble_eq_true rfl) peX10_9 dX10_define_34 ?_
      refine gz_aload_n K dX10_define_37 1 rfl ?_
      refine gz_iconst K (v := (2 : Int32)) dX10_define_38 (by decide) ?_
      refine gz_callV K hex (c_X10_fails K.2.2.2.2.2 K.2.2.1 hp) cf_X10_fails zq5_149 (by decide) (ce_43 _ _ _ _ _ _) rfl dX10_define_39 rfl rfl (Nat.le_of_ble_eq_true rfl) ⟨Nat.le_of_ble_eq_true rfl, Nat.le_of_ble_eq_true rfl⟩ ⟨Nat.le_of_ble_eq_true rfl, Nat.le_of_ble_eq_true rfl⟩ (Nat.le_of_ble_eq_true rfl) (Nat.le_of_ble_eq_true rfl) (fun _ _ h => h.elim) (fun r39 τ39 hp => ?_)
      refine gz_norm (st' := [.int r39]) (cells' := 0) (slots' := 0) rfl rfl rfl ?_
      exact gz_iret K hr hp dX10_define_42 (Nat.le_of_ble_eq_true rfl) (Nat.le_of_ble_eq_true rfl)
  · have hp := hp.2 h
    refine gz_aload_n K dX10_define_9 0 rfl ?_
    refine gz_iconst K (v := (1 : Int32)) dX10_define_10 (by decide) ?_
    refine gz_callV K hex (c_X10_fails K.2.2.2.2.2 K.2.2.1 hp) cf_X10_fails zq5_149 (by decide) (ce_43 _ _ _ _ _ _) rfl dX10_define_11 rfl rfl (Nat.le_of_ble_eq_true rfl) ⟨Nat.le_of_ble_eq_true rfl, Nat.le_of_ble_eq_true rfl⟩ ⟨Nat.le_of_ble_eq_true rfl, Nat.le_of_ble_eq_true rfl⟩ (Nat.le_of_ble_eq_true rfl) (Nat.le_of_ble_eq_true rfl) (fun _ _ h => h.elim) (fun r11 τ11 hp => ?_)
    refine gz_norm (st' := [.int r11]) (cells' := 0) (slots' := 0) rfl rfl rfl ?_
    exact gz_iret K hr hp dX10_define_14 (Nat.le_of_ble_eq_true rfl) (Nat.le_of_ble_eq_true rfl)
set_option maxRecDepth 100000 in
set_option maxHeartbeats 4000000 in
theorem c_X10_comes {l : Launch} {D : va_G} {ad : Nat → Nat} {ty : Nat → ClassId} (hl : l.stackTraces = false) (hj : ∀ i j, i < 68 → j < 68 → ad i = ad j → i = j) {σ : Dz} {x1 : Int32} {post : Dz → Prop} (hp : P_X10_comes σ x1 post) : Mz l D ad ty yX10_comes cX10_comes 2 none r_X10_comes nV0 σ [.ref (ad 43), .int x1] (fun _ τ => post τ) (fun _ _ => False) := by
  refine mz_of (by decide) hl hj (Nat.le_of_ble_eq_true rfl) ?_
  intro p e s m args below meth c K hex hr
  unfold P_X10_comes at hp
  show Gz p l e r_X10_comes s m args below meth c D ad ty 2 0 0 (Ez below D ad ty nV0 (fun _ τ => post τ) (fun _ _ => False) args s 0 0) σ 0 [(0, .ref (ad 43)), (1, .int x1)] []
  refine gz_aload_n K dX10_comes_0 0 rfl ?_
  refine gz_get K (v := .int (gz_i σ 43 22)) (by decide) (ce_43 _ _ _ _ _ _) rfl inz_X10 22 (by decide) zq5_53 rfl dX10_comes_1 ?_
  refine gz_sipush K (v := (200 : Int32)) dX10_comes_4 (by decide) ?_
  refine gz_icmp_ne K 18 dX10_comes_7 (by decide) (fun h => ?_) (fun h => ?_)
  · have hp := hp.1 h
    refine gz_aload_n K dX10_comes_18 0 rfl ?_
    refine gz_get K (v := .ref (ad 59)) (by decide) (ce_43 _ _ _ _ _ _) rfl inz_X10 21 (by decide) zq5_52 rfl dX10_comes_19 ?_
    refine gz_aload_n K dX10_comes_22 0 rfl ?_
    refine gz_get K (v := .int (gz_i σ 43 22)) (by decide) (ce_43 _ _ _ _ _ _) rfl inz_X10 22 (by decide) zq5_53 rfl dX10_comes_23 ?_
    refine gz_iload_n K dX10_comes_26 1 rfl ?_
    obtain ⟨h, hp⟩ := hp
    refine gz_iast K (x := x1) (by decide) (ce_59 ad ty) h dX10_comes_27 ?_
    refine gz_aload_n K dX10_comes_28 0 rfl ?_
    refine gz_dup K dX10_comes_29 rfl ?_
    refine gz_get K (v := .int (gz_i (sz_i σ 59 ((gz_i σ 43 22)).toNatClampNeg x1) 43 22)) (by decide) (ce_43 _ _ _ _ _ _) rfl inz_X10 22 (by decide) zq5_53 rfl dX10_comes_30 ?_
    refine gz_iconst K (v := (1 : Int32)) dX10_comes_33 (by decide) ?_
    refine gz_iadd K dX10_comes_34 ?_
    refine gz_put K (x := ((gz_i (sz_i σ 59 ((gz_i σ 43 22)).toNatClampNeg x1) 43 22) + (1 : Int32))) (by decide) (ce_43 _ _ _ _ _ _) rfl inz_X10 tyX10 tyX10_ok nmX10 22 (by decide) zq5_53 rfl (tyX10_ok _ (by decide)) rfl rfl (Nat.le_of_ble_eq_true rfl) peX10_22 dX10_comes_35 ?_
    exact gz_vret K hr hp dX10_comes_38 (Nat.le_of_ble_eq_true rfl) (Nat.le_of_ble_eq_true rfl)
  · have hp := hp.2 h
    refine gz_aload_n K dX10_comes_10 0 rfl ?_
    refine gz_iconst K (v := (1 : Int32)) dX10_comes_11 (by decide) ?_
    refine gz_put K (x := (1 : Int32)) (by decide) (ce_43 _ _ _ _ _ _) rfl inz_X10 tyX10 tyX10_ok nmX10 23 (by decide) zq5_54 rfl (tyX10_ok _ (by decide)) rfl rfl (Nat.le_of_ble_eq_true rfl) peX10_23 dX10_comes_12 ?_
    refine gz_goto K 38 dX10_comes_15 (by decide) ?_
    exact gz_vret K hr hp dX10_comes_38 (Nat.le_of_ble_eq_true rfl) (Nat.le_of_ble_eq_true rfl)
set_option maxRecDepth 100000 in
set_option maxHeartbeats 4000000 in
theorem c_X10_comesBack {l : Launch} {D : va_G} {ad : Nat → Nat} {ty : Nat → ClassId} (hl : l.stackTraces = false) (hj : ∀ i j, i < 68 → j < 68 → ad i = ad j → i = j) {σ : Dz} {x1 : Int32} {x2 : Int32} {post : Dz → Prop} (hp : P_X10_comesBack σ x1 x2 post) : Mz l D ad ty yX10_comesBack cX10_comesBack 4 none r_X10_comesBack nV0 σ [.ref (ad 43), .int x1, .int x2] (fun _ τ => post τ) (fun _ _ => False) := by
  refine mz_of (by decide) hl hj (Nat.le_of_ble_eq_true rfl) ?_
  intro p e s m args below meth c K hex hr
  unfold P_X10_comesBack at hp
  show Gz p l e r_X10_comesBack s m args below meth c D ad ty 4 0 0 (Ez below D ad ty nV0 (fun _ τ => post τ) (fun _ _ => False) args s 0 0) σ 0 [(0, .ref (ad 43)), (1, .int x1), (2, .int x2)] []
  refine gz_iload_n K dX10_comesBack_0 2 rfl ?_
  refine gz_iconst K (v := (1 : Int32)) dX10_comesBack_1 (by decide) ?_
  refine gz_isub K dX10_comesBack_2 ?_
  refine gz_istore_n K [(3, .int (x2 - (1 : Int32))), (0, .ref (ad 43)), (1, .int x1), (2, .int x2)] dX10_comesBack_3 (by decide) rfl ?_
  refine gz_sub [1, 2, 0] rfl ?_
  have ll_4 : ∀ (n_4 : Nat) (σ : Dz) (y1 : Int32) (y3 : Int32) , L_X10_comesBack_4 post  n_4 σ y1 y3 → Gz p l e r_X10_comesBack s m args below meth c D ad ty 4 0 0 (Ez below D ad ty nV0 (fun _ τ => post τ) (fun _ _ => False) args s 0 0) σ 4 [(0, .ref (ad 43)), (1, .int y1), (3, .int y3)] [] := by
    intro n_4; induction n_4 with
    | zero => intro σ y1 y3 hp; exact False.elim hp
    | succ n_4 ih_4 =>
      intro σ y1 y3 hp
      have hp : B_X10_comesBack_4 post  (L_X10_comesBack_4 post  n_4) σ y1 y3 := hp
      unfold B_X10_comesBack_4 at hp
      refine gz_iload_n K dX10_comesBack_4 2 rfl ?_
      refine gz_iload_n K dX10_comesBack_5 1 rfl ?_
      refine gz_icmp_lt K 27 dX10_comesBack_6 (by decide) (fun h => ?_) (fun h => ?_)
      · have hp := hp.1 h
        exact gz_vret K hr hp dX10_comesBack_27 (Nat.le_of_ble_eq_true rfl) (Nat.le_of_ble_eq_true rfl)
      · have hp := hp.2 h
        refine gz_aload_n K dX10_comesBack_9 0 rfl ?_
        refine gz_aload_n K dX10_comesBack_10 0 rfl ?_
        refine gz_get K (v := .ref (ad 59)) (by decide) (ce_43 _ _ _ _ _ _) rfl inz_X10 21 (by decide) zq5_52 rfl dX10_comesBack_11 ?_
        refine gz_iload_n K dX10_comesBack_14 2 rfl ?_
        obtain ⟨h, hp⟩ := hp
        refine gz_iald K (by decide) (ce_59 _ _ _ _ _ _) h dX10_comesBack_15 ?_
        refine gz_iconst K (v := (1 : Int32)) dX10_comesBack_16 (by decide) ?_
        refine gz_ixor K dX10_comesBack_17 ?_
        refine gz_callV K hex (c_X10_comes K.2.2.2.2.2 K.2.2.1 hp) cf_X10_comes zq5_202 (by decide) (ce_43 _ _ _ _ _ _) rfl dX10_comesBack_18 rfl rfl (Nat.le_of_ble_eq_true rfl) ⟨Nat.le_of_ble_eq_true rfl, Nat.le_of_ble_eq_true rfl⟩ ⟨Nat.le_of_ble_eq_true rfl, Nat.le_of_ble_eq_true rfl⟩ (Nat.le_of_ble_eq_true rfl) (Nat.le_of_ble_eq_true rfl) (fun _ _ h => h.elim) (fun _ τ18 hp => ?_)
        refine gz_norm (st' := []) (cells' := 0) (slots' := 0) rfl rfl rfl ?_
        refine gz_iinc K (v := (y3 + (-1))) [(3, .int (y3 + (-1))), (0, .ref (ad 43)), (1, .int y1)] dX10_comesBack_21 2 rfl (by first | rfl | decide) (by decide) rfl ?_
        refine gz_goto K 4 dX10_comesBack_24 (by decide) ?_
        refine gz_sub [1, 2, 0] rfl ?_
        exact ih_4 τ18 y1 (y3 + (-1))  hp
  obtain ⟨n, hp⟩ := hp
  exact ll_4 n σ x1 (x2 - (1 : Int32))  hp
set_option maxRecDepth 100000 in
set_option maxHeartbeats 4000000 in
theorem c_X10_turns {l : Launch} {D : va_G} {ad : Nat → Nat} {ty : Nat → ClassId} (hl : l.stackTraces = false) (hj : ∀ i j, i < 68 → j < 68 → ad i = ad j → i = j) {σ : Dz} {x1 : Int32} {post : Dz → Prop} (hp : P_X10_turns σ x1 post) : Mz l D ad ty yX10_turns cX10_turns 5 none r_X10_turns nV0 σ [.ref (ad 43), .int x1] (fun _ τ => post τ) (fun _ _ => False) := by
  refine mz_of (by decide) hl hj (Nat.le_of_ble_eq_true rfl) ?_
  intro p e s m args below meth c K hex hr
  unfold P_X10_turns at hp
  show Gz p l e r_X10_turns s m args below meth c D ad ty 5 0 0 (Ez below D ad ty nV0 (fun _ τ => post τ) (fun _ _ => False) args s 0 0) σ 0 [(0, .ref (ad 43)), (1, .int x1)] []
  refine gz_aload_n K dX10_turns_0 0 rfl ?_
  refine gz_get K (v := .int (gz_i σ 43 22)) (by decide) (ce_43 _ _ _ _ _ _) rfl inz_X10 22 (by decide) zq5_53 rfl dX10_turns_1 ?_
  refine gz_iload_n K dX10_turns_4 1 rfl ?_
  refine gz_isub K dX10_turns_5 ?_
  refine gz_istore_n K [(2, .int ((gz_i σ 43 22) - x1)), (0, .ref (ad 43)), (1, .int x1)] dX10_turns_6 (by decide) rfl ?_
  refine gz_iconst K (v := (0 : Int32)) dX10_turns_7 (by decide) ?_
  refine gz_istore_n K [(3, .int (0 : Int32)), (2, .int ((gz_i σ 43 22) - x1)), (0, .ref (ad 43)), (1, .int x1)] dX10_turns_8 (by decide) rfl ?_
  refine gz_sub [2, 3, 1, 0] rfl ?_
  have ll_9 : ∀ (n_9 : Nat) (σ : Dz) (y1 : Int32) (y2 : Int32) (y3 : Int32) , L_X10_turns_9 post  n_9 σ y1 y2 y3 → Gz p l e r_X10_turns s m args below meth c D ad ty 5 0 0 (Ez below D ad ty nV0 (fun _ τ => post τ) (fun _ _ => False) args s 0 0) σ 9 [(0, .ref (ad 43)), (1, .int y1), (2, .int y2), (3, .int y3)] [] := by
    intro n_9; induction n_9 with
    | zero => intro σ y1 y2 y3 hp; exact False.elim hp
    | succ n_9 ih_9 =>
      intro σ y1 y2 y3 hp
      have hp : B_X10_turns_9 post  (L_X10_turns_9 post  n_9) σ y1 y2 y3 := hp
      unfold B_X10_turns_9 at hp
      refine gz_iload_n K dX10_turns_9 3 rfl ?_
      refine gz_iload_n K dX10_turns_10 2 rfl ?_
      refine gz_iconst K (v := (2 : Int32)) dX10_turns_11 (by decide) ?_
      refine gz_idiv K dX10_turns_12 (by decide) ?_
      refine gz_icmp_ge K 68 dX10_turns_13 (by decide) (fun h => ?_) (fun h => ?_)
      · have hp := hp.1 h
        refine gz_iload_n K dX10_turns_68 1 rfl ?_
        refine gz_istore_n K [(3, .int y1), (0, .ref (ad 43)), (1, .int y1), (2, .int y2)] dX10_turns_69 (by decide) rfl ?_
        refine gz_sub [1, 0] rfl ?_
        have ll_70 : ∀ (n_70 : Nat) (σ : Dz) (y3 : Int32) , L_X10_turns_70 post  n_70 σ y3 → Gz p l e r_X10_turns s m args below meth c D ad ty 5 0 0 (Ez below D ad ty nV0 (fun _ τ => post τ) (fun _ _ => False) args s 0 0) σ 70 [(0, .ref (ad 43)), (3, .int y3)] [] := by
          intro n_70; induction n_70 with
          | zero => intro σ y3 hp; exact False.elim hp
          | succ n_70 ih_70 =>
            intro σ y3 hp
            have hp : B_X10_turns_70 post  (L_X10_turns_70 post  n_70) σ y3 := hp
            unfold B_X10_turns_70 at hp
            refine gz_iload_n K dX10_turns_70 1 rfl ?_
            refine gz_aload_n K dX10_turns_71 0 rfl ?_
            refine gz_get K (v := .int (gz_i σ 43 22)) (by decide) (ce_43 _ _ _ _ _ _) rfl inz_X10 22 (by decide) zq5_53 rfl dX10_turns_72 ?_
            refine gz_icmp_ge K 94 dX10_turns_75 (by decide) (fun h => ?_) (fun h => ?_)
            · have hp := hp.1 h
              exact gz_vret K hr hp dX10_turns_94 (Nat.le_of_ble_eq_true rfl) (Nat.le_of_ble_eq_true rfl)
            · have hp := hp.2 h
              refine gz_aload_n K dX10_turns_78 0 rfl ?_
              refine gz_get K (v := .ref (ad 59)) (by decide) (ce_43 _ _ _ _ _ _) rfl inz_X10 21 (by decide) zq5_52 rfl dX10_turns_79 ?_
              refine gz_iload_n K dX10_turns_82 1 rfl ?_
              refine gz_dup2 K dX10_turns_83 rfl rfl ?_
              obtain ⟨h, hp⟩ := hp
              refine gz_iald K (by decide) (ce_59 _ _ _ _ _ _) h dX10_turns_84 ?_
              refine gz_iconst K (v := (1 : Int32)) dX10_turns_85 (by decide) ?_
              refine gz_ixor K dX10_turns_86 ?_
              obtain ⟨h, hp⟩ := hp
              refine gz_iast K (x := ((gz_i σ 59 (y3).toNatClampNeg) ^^^ (1 : Int32))) (by decide) (ce_59 ad ty) h dX10_turns_87 ?_
              refine gz_iinc K (v := (y3 + 1)) [(3, .int (y3 + 1)), (0, .ref (ad 43))] dX10_turns_88 1 rfl (by first | rfl | decide) (by decide) rfl ?_
              refine gz_goto K 70 dX10_turns_91 (by decide) ?_
              refine gz_sub [1, 0] rfl ?_
              exact ih_70 (sz_i σ 59 (y3).toNatClampNeg ((gz_i σ 59 (y3).toNatClampNeg) ^^^ (1 : Int32))) (y3 + 1)  hp
        obtain ⟨n, hp⟩ := hp
        exact ll_70 n σ y1  hp
      · have hp := hp.2 h
        refine gz_aload_n K dX10_turns_16 0 rfl ?_
        refine gz_get K (v := .ref (ad 59)) (by decide) (ce_43 _ _ _ _ _ _) rfl inz_X10 21 (by decide) zq5_52 rfl dX10_turns_17 ?_
        refine gz_iload_n K dX10_turns_20 1 rfl ?_
        refine gz_iload_n K dX10_turns_21 3 rfl ?_
        refine gz_iadd K dX10_turns_22 ?_
        obtain ⟨h, hp⟩ := hp
        refine gz_iald K (by decide) (ce_59 _ _ _ _ _ _) h dX10_turns_23 ?_
        refine gz_istore K [(4, .int (gz_i σ 59 ((y1 + y3)).toNatClampNeg)), (0, .ref (ad 43)), (1, .int y1), (2, .int y2), (3, .int y3)] dX10_turns_24 (by decide) rfl ?_
        refine gz_aload_n K dX10_turns_26 1 rfl ?_
        refine gz_get K (v := .ref (ad 59)) (by decide) (ce_43 _ _ _ _ _ _) rfl inz_X10 21 (by decide) zq5_52 rfl dX10_turns_27 ?_
        refine gz_iload_n K dX10_turns_30 2 rfl ?_
        refine gz_iload_n K dX10_turns_31 4 rfl ?_
        refine gz_iadd K dX10_turns_32 ?_
        refine gz_aload_n K dX10_turns_33 1 rfl ?_
        refine gz_get K (v := .ref (ad 59)) (by decide) (ce_43 _ _ _ _ _ _) rfl inz_X10 21 (by decide) zq5_52 rfl dX10_turns_34 ?_
        refine gz_aload_n K dX10_turns_37 1 rfl ?_
        refine gz_get K (v := .int (gz_i σ 43 22)) (by decide) (ce_43 _ _ _ _ _ _) rfl inz_X10 22 (by decide) zq5_53 rfl dX10_turns_38 ?_
        refine gz_iconst K (v := (1 : Int32)) dX10_turns_41 (by decide) ?_
        refine gz_isub K dX10_turns_42 ?_
        refine gz_iload_n K dX10_turns_43 4 rfl ?_
        refine gz_isub K dX10_turns_44 ?_
        obtain ⟨h, hp⟩ := hp
        refine gz_iald K (by decide) (ce_59 _ _ _ _ _ _) h dX10_turns_45 ?_
        obtain ⟨h, hp⟩ := hp
        refine gz_iast K (x := (gz_i σ 59 ((((gz_i σ 43 22) - (1 : Int32)) - y3)).toNatClampNeg)) (by decide) (ce_59 ad ty) h dX10_turns_46 ?_
        refine gz_aload_n K dX10_turns_47 1 rfl ?_
        refine gz_get K (v := .ref (ad 59)) (by decide) (ce_43 _ _ _ _ _ _) rfl inz_X10 21 (by decide) zq5_52 rfl dX10_turns_48 ?_
        refine gz_aload_n K dX10_turns_51 1 rfl ?_
        refine gz_get K (v := .int (gz_i (sz_i σ 59 ((y1 + y3)).toNatClampNeg (gz_i σ 59 ((((gz_i σ 43 22) - (1 : Int32)) - y3)).toNatClampNeg)) 43 22)) (by decide) (ce_43 _ _ _ _ _ _) rfl inz_X10 22 (by decide) zq5_53 rfl dX10_turns_52 ?_
        refine gz_iconst K (v := (1 : Int32)) dX10_turns_55 (by decide) ?_
        refine gz_isub K dX10_turns_56 ?_
        refine gz_iload_n K dX10_turns_57 4 rfl ?_
        refine gz_isub K dX10_turns_58 ?_
        refine gz_iload K dX10_turns_59 0 rfl ?_
        obtain ⟨h, hp⟩ := hp
        refine gz_iast K (x := (gz_i σ 59 ((y1 + y3)).toNatClampNeg)) (by decide) (ce_59 ad ty) h dX10_turns_61 ?_
        refine gz_iinc K (v := (y3 + 1)) [(3, .int (y3 + 1)), (4, .int (gz_i σ 59 ((y1 + y3)).toNatClampNeg)), (0, .ref (ad 43)), (1, .int y1), (2, .int y2)] dX10_turns_62 4 rfl (by first | rfl | decide) (by decide) rfl ?_
        refine gz_goto K 9 dX10_turns_65 (by decide) ?_
        refine gz_sub [2, 3, 4, 0] rfl ?_
        exact ih_9 (sz_i (sz_i σ 59 ((y1 + y3)).toNatClampNeg (gz_i σ 59 ((((gz_i σ 43 22) - (1 : Int32)) - y3)).toNatClampNeg)) 59 ((((gz_i (sz_i σ 59 ((y1 + y3)).toNatClampNeg (gz_i σ 59 ((((gz_i σ 43 22) - (1 : Int32)) - y3)).toNatClampNeg)) 43 22) - (1 : Int32)) - y3)).toNatClampNeg (gz_i σ 59 ((y1 + y3)).toNatClampNeg)) y1 y2 (y3 + 1)  hp
  obtain ⟨n, hp⟩ := hp
  exact ll_9 n σ x1 ((gz_i σ 43 22) - x1) (0 : Int32)  hp
set_option maxRecDepth 100000 in
set_option maxHeartbeats 4000000 in
theorem c_X10_readsBehind {l : Launch} {D : va_G} {ad : Nat → Nat} {ty : Nat → ClassId} (hl : l.stackTraces = false) (hj : ∀ i j, i < 68 → j < 68 → ad i = ad j → i = j) {σ : Dz} {x1 : Int32} {post : Dz → Prop} (hp : P_X10_readsBehind σ x1 post) : Mz l D ad ty yX10_readsBehind cX10_readsBehind 5 none r_X10_readsBehind nV0 σ [.ref (ad 43), .int x1] (fun _ τ => post τ) (fun _ _ => False) := by
  refine mz_of (by decide) hl hj (Nat.le_of_ble_eq_true rfl) ?_
  intro p e s m args below meth c K hex hr
  unfold P_X10_readsBehind at hp
  have bb_24 : ∀ (σ : Dz) (y1 : Int32) , B_X10_readsBehind_24 post  σ y1 → Gz p l e r_X10_readsBehind s m args below meth c D ad ty 5 0 0 (Ez below D ad ty nV0 (fun _ τ => post τ) (fun _ _ => False) args s 0 0) σ 24 [(0, .ref (ad 43)), (1, .int y1)] [] := by
    intro σ y1 hp
    unfold B_X10_readsBehind_24 at hp
    refine gz_aload_n K dX10_readsBehind_24 0 rfl ?_
    refine gz_callV K hex (c_X10_here K.2.2.2.2.2 K.2.2.1 hp) cf_X10_here zq5_173 (by decide) (ce_43 _ _ _ _ _ _) rfl dX10_readsBehind_25 rfl rfl (Nat.le_of_ble_eq_true rfl) ⟨Nat.le_of_ble_eq_true rfl, Nat.le_of_ble_eq_true rfl⟩ ⟨Nat.le_of_ble_eq_true rfl, Nat.le_of_ble_eq_true rfl⟩ (Nat.le_of_ble_eq_true rfl) (Nat.le_of_ble_eq_true rfl) (fun _ _ h => h.elim) (fun r25 τ hp => ?_)
    obtain ⟨rfl, hp⟩ := hp
    refine gz_norm (st' := [.int r25]) (cells' := 0) (slots' := 0) rfl rfl rfl ?_
    refine gz_bipush K (v := (50 : Int32)) dX10_readsBehind_28 (by decide) ?_
    refine gz_bipush K (v := (57 : Int32)) dX10_readsBehind_30 (by decide) ?_
    refine gz_callS K hex (c_X10_in K.2.2.2.2.2 K.2.2.1 hp) cf_X10_in zq5_146 dX10_readsBehind_32 rfl rfl (Nat.le_of_ble_eq_true rfl) ⟨Nat.le_of_ble_eq_true rfl, Nat.le_of_ble_eq_true rfl⟩ ⟨Nat.le_of_ble_eq_true rfl, Nat.le_of_ble_eq_true rfl⟩ (Nat.le_of_ble_eq_true rfl) (Nat.le_of_ble_eq_true rfl) (fun _ _ h => h.elim) (fun r32 τ hp => ?_)
    obtain ⟨rfl, hp⟩ := hp
    refine gz_norm (st' := [.int r32]) (cells' := 0) (slots' := 0) rfl rfl rfl ?_
    refine gz_if_eq K 98 dX10_readsBehind_35 (by decide) (fun h => ?_) (fun h => ?_)
    · have hp := hp.1 h
      exact gz_vret K hr hp dX10_readsBehind_98 (Nat.le_of_ble_eq_true rfl) (Nat.le_of_ble_eq_true rfl)
    · have hp := hp.2 h
      refine gz_aload_n K dX10_readsBehind_38 0 rfl ?_
      refine gz_get K (v := .int (gz_i σ 43 22)) (by decide) (ce_43 _ _ _ _ _ _) rfl inz_X10 22 (by decide) zq5_53 rfl dX10_readsBehind_39 ?_
      refine gz_istore_n K [(2, .int (gz_i σ 43 22)), (0, .ref (ad 43)), (1, .int y1)] dX10_readsBehind_42 (by decide) rfl ?_
      refine gz_iconst K (v := (1 : Int32)) dX10_readsBehind_43 (by decide) ?_
      refine gz_istore_n K [(3, .int (1 : Int32)), (2, .int (gz_i σ 43 22)), (0, .ref (ad 43)), (1, .int y1)] dX10_readsBehind_44 (by decide) rfl ?_
      refine gz_sub [2, 3, 1, 0] rfl ?_
      have ll_45 : ∀ (n_45 : Nat) (σ : Dz) (y1 : Int32) (y2 : Int32) (y3 : Int32) , L_X10_readsBehind_45 post  n_45 σ y1 y2 y3 → Gz p l e r_X10_readsBehind s m args below meth c D ad ty 5 0 0 (Ez below D ad ty nV0 (fun _ τ => post τ) (fun _ _ => False) args s 0 0) σ 45 [(0, .ref (ad 43)), (1, .int y1), (2, .int y2), (3, .int y3)] [] := by
        intro n_45; induction n_45 with
        | zero => intro σ y1 y2 y3 hp; exact False.elim hp
        | succ n_45 ih_45 =>
          intro σ y1 y2 y3 hp
          have hp : B_X10_readsBehind_45 post  (L_X10_readsBehind_45 post  n_45) σ y1 y2 y3 := hp
          unfold B_X10_readsBehind_45 at hp
          refine gz_iload_n K dX10_readsBehind_45 3 rfl ?_
          refine gz_aload_n K dX10_readsBehind_46 0 rfl ?_
          refine gz_callV K hex (c_X10_here K.2.2.2.2.2 K.2.2.1 hp) cf_X10_here zq5_173 (by decide) (ce_43 _ _ _ _ _ _) rfl dX10_readsBehind_47 rfl rfl (Nat.le_of_ble_eq_true rfl) ⟨Nat.le_of_ble_eq_true rfl, Nat.le_of_ble_eq_true rfl⟩ ⟨Nat.le_of_ble_eq_true rfl, Nat.le_of_ble_eq_true rfl⟩ (Nat.le_of_ble_eq_true rfl) (Nat.le_of_ble_eq_true rfl) (fun _ _ h => h.elim) (fun r47 τ hp => ?_)
          obtain ⟨rfl, hp⟩ := hp
          refine gz_norm (st' := [.int r47, .int y3]) (cells' := 0) (slots' := 0) rfl rfl rfl ?_
          refine gz_bipush K (v := (48 : Int32)) dX10_readsBehind_50 (by decide) ?_
          refine gz_isub K dX10_readsBehind_52 ?_
          refine gz_icmp_ge K 88 dX10_readsBehind_53 (by decide) (fun h => ?_) (fun h => ?_)
          · have hp := hp.1 h
            refine gz_aload_n K dX10_readsBehind_88 0 rfl ?_
            refine gz_dup K dX10_readsBehind_89 rfl ?_
            refine gz_get K (v := .int (gz_i σ 43 18)) (by decide) (ce_43 _ _ _ _ _ _) rfl inz_X10 18 (by decide) zq5_49 rfl dX10_readsBehind_90 ?_
            refine gz_iconst K (v := (1 : Int32)) dX10_readsBehind_93 (by decide) ?_
            refine gz_iadd K dX10_readsBehind_94 ?_
            refine gz_put K (x := ((gz_i σ 43 18) + (1 : Int32))) (by decide) (ce_43 _ _ _ _ _ _) rfl inz_X10 tyX10 tyX10_ok nmX10 18 (by decide) zq5_49 rfl (tyX10_ok _ (by decide)) rfl rfl (Nat.le_of_ble_eq_true rfl) peX10_18 dX10_readsBehind_95 ?_
            exact gz_vret K hr hp dX10_readsBehind_98 (Nat.le_of_ble_eq_true rfl) (Nat.le_of_ble_eq_true rfl)
          · have hp := hp.2 h
            refine gz_iload_n K dX10_readsBehind_56 1 rfl ?_
            refine gz_istore K [(4, .int y1), (0, .ref (ad 43)), (1, .int y1), (2, .int y2), (3, .int y3)] dX10_readsBehind_57 (by decide) rfl ?_
            refine gz_sub [1, 2, 3, 4, 0] rfl ?_
            have ll_59 : ∀ (n_59 : Nat) (σ : Dz) (y1 : Int32) (y2 : Int32) (y3 : Int32) (y4 : Int32) , L_X10_readsBehind_59 post (L_X10_readsBehind_45 post  n_45) n_59 σ y1 y2 y3 y4 → Gz p l e r_X10_readsBehind s m args below meth c D ad ty 5 0 0 (Ez below D ad ty nV0 (fun _ τ => post τ) (fun _ _ => False) args s 0 0) σ 59 [(0, .ref (ad 43)), (1, .int y1), (2, .int y2), (3, .int y3), (4, .int y4)] [] := by
              intro n_59; induction n_59 with
              | zero => intro σ y1 y2 y3 y4 hp; exact False.elim hp
              | succ n_59 ih_59 =>
                intro σ y1 y2 y3 y4 hp
                have hp : B_X10_readsBehind_59 post (L_X10_readsBehind_45 post  n_45) (L_X10_readsBehind_59 post (L_X10_readsBehind_45 post  n_45) n_59) σ y1 y2 y3 y4 := hp
                unfold B_X10_readsBehind_59 at hp
                refine gz_iload K dX10_readsBehind_59 4 rfl ?_
                refine gz_iload_n K dX10_readsBehind_61 2 rfl ?_
                refine gz_icmp_ge K 82 dX10_readsBehind_62 (by decide) (fun h => ?_) (fun h => ?_)
                · have hp := hp.1 h
                  refine gz_iinc K (v := (y3 + 1)) [(3, .int (y3 + 1)), (0, .ref (ad 43)), (1, .int y1), (2, .int y2), (4, .int y4)] dX10_readsBehind_82 3 rfl (by first | rfl | decide) (by decide) rfl ?_
                  refine gz_goto K 45 dX10_readsBehind_85 (by decide) ?_
                  refine gz_sub [1, 2, 3, 0] rfl ?_
                  exact ih_45 σ y1 y2 (y3 + 1)  hp
                · have hp := hp.2 h
                  refine gz_aload_n K dX10_readsBehind_65 0 rfl ?_
                  refine gz_aload_n K dX10_readsBehind_66 0 rfl ?_
                  refine gz_get K (v := .ref (ad 59)) (by decide) (ce_43 _ _ _ _ _ _) rfl inz_X10 21 (by decide) zq5_52 rfl dX10_readsBehind_67 ?_
                  refine gz_iload K dX10_readsBehind_70 4 rfl ?_
                  obtain ⟨h, hp⟩ := hp
                  refine gz_iald K (by decide) (ce_59 _ _ _ _ _ _) h dX10_readsBehind_72 ?_
                  refine gz_callV K hex (c_X10_comes K.2.2.2.2.2 K.2.2.1 hp) cf_X10_comes zq5_202 (by decide) (ce_43 _ _ _ _ _ _) rfl dX10_readsBehind_73 rfl rfl (Nat.le_of_ble_eq_true rfl) ⟨Nat.le_of_ble_eq_true rfl, Nat.le_of_ble_eq_true rfl⟩ ⟨Nat.le_of_ble_eq_true rfl, Nat.le_of_ble_eq_true rfl⟩ (Nat.le_of_ble_eq_true rfl) (Nat.le_of_ble_eq_true rfl) (fun _ _ h => h.elim) (fun _ τ73 hp => ?_)
                  refine gz_norm (st' := []) (cells' := 0) (slots' := 0) rfl rfl rfl ?_
                  refine gz_iinc K (v := (y4 + 1)) [(4, .int (y4 + 1)), (0, .ref (ad 43)), (1, .int y1), (2, .int y2), (3, .int y3)] dX10_readsBehind_76 4 rfl (by first | rfl | decide) (by decide) rfl ?_
                  refine gz_goto K 59 dX10_readsBehind_79 (by decide) ?_
                  refine gz_sub [1, 2, 3, 4, 0] rfl ?_
                  exact ih_59 τ73 y1 y2 y3 (y4 + 1)  hp
            obtain ⟨n, hp⟩ := hp
            exact ll_59 n σ y1 y2 y3 y1  hp
      obtain ⟨n, hp⟩ := hp
      exact ll_45 n σ y1 (gz_i σ 43 22) (1 : Int32)  hp
  show Gz p l e r_X10_readsBehind s m args below meth c D ad ty 5 0 0 (Ez below D ad ty nV0 (fun _ τ => post τ) (fun _ _ => False) args s 0 0) σ 0 [(0, .ref (ad 43)), (1, .int x1)] []
  refine gz_aload_n K dX10_readsBehind_0 0 rfl ?_
  refine gz_callV K hex (c_X10_here K.2.2.2.2.2 K.2.2.1 hp) cf_X10_here zq5_173 (by decide) (ce_43 _ _ _ _ _ _) rfl dX10_readsBehind_1 rfl rfl (Nat.le_of_ble_eq_true rfl) ⟨Nat.le_of_ble_eq_true rfl, Nat.le_of_ble_eq_true rfl⟩ ⟨Nat.le_of_ble_eq_true rfl, Nat.le_of_ble_eq_true rfl⟩ (Nat.le_of_ble_eq_true rfl) (Nat.le_of_ble_eq_true rfl) (fun _ _ h => h.elim) (fun r1 τ hp => ?_)
  obtain ⟨rfl, hp⟩ := hp
  refine gz_norm (st' := [.int r1]) (cells' := 0) (slots' := 0) rfl rfl rfl ?_
  refine gz_bipush K (v := (39 : Int32)) dX10_readsBehind_4 (by decide) ?_
  refine gz_icmp_ne K 24 dX10_readsBehind_6 (by decide) (fun h => ?_) (fun h => ?_)
  · have hp := hp.1 h
    exact bb_24 σ x1  hp
  · have hp := hp.2 h
    refine gz_aload_n K dX10_readsBehind_9 0 rfl ?_
    refine gz_iload_n K dX10_readsBehind_10 1 rfl ?_
    refine gz_callV K hex (c_X10_turns K.2.2.2.2.2 K.2.2.1 hp) cf_X10_turns zq5_214 (by decide) (ce_43 _ _ _ _ _ _) rfl dX10_readsBehind_11 rfl rfl (Nat.le_of_ble_eq_true rfl) ⟨Nat.le_of_ble_eq_true rfl, Nat.le_of_ble_eq_true rfl⟩ ⟨Nat.le_of_ble_eq_true rfl, Nat.le_of_ble_eq_true rfl⟩ (Nat.le_of_ble_eq_true rfl) (Nat.le_of_ble_eq_true rfl) (fun _ _ h => h.elim) (fun _ τ11 hp => ?_)
    refine gz_norm (st' := []) (cells' := 0) (slots' := 0) rfl rfl rfl ?_
    refine gz_aload_n K dX10_readsBehind_14 0 rfl ?_
    refine gz_dup K dX10_readsBehind_15 rfl ?_
    refine gz_get K (v := .int (gz_i τ11 43 18)) (by decide) (ce_43 _ _ _ _ _ _) rfl inz_X10 18 (by decide) zq5_49 rfl dX10_readsBehind_16 ?_
    refine gz_iconst K (v := (1 : Int32)) dX10_readsBehind_19 (by decide) ?_
    refine gz_iadd K dX10_readsBehind_20 ?_
    refine gz_put K (x := ((gz_i τ11 43 18) + (1 : Int32))) (by decide) (ce_43 _ _ _ _ _ _) rfl inz_X10 tyX10 tyX10_ok nmX10 18 (by decide) zq5_49 rfl (tyX10_ok _ (by decide)) rfl rfl (Nat.le_of_ble_eq_true rfl) peX10_18 dX10_readsBehind_21 ?_
    exact bb_24 (sz_i τ11 43 18 ((gz_i τ11 43 18) + (1 : Int32))) x1  hp
set_option maxRecDepth 100000 in
set_option maxHeartbeats 4000000 in
theorem c_X10_keeps {l : Launch} {D : va_G} {ad : Nat → Nat} {ty : Nat → ClassId} (hl : l.stackTraces = false) (hj : ∀ i j, i < 68 → j < 68 → ad i = ad j → i = j) {σ : Dz} {x1 : Int32} {post : Int32 → Dz → Prop} (hp : P_X10_keeps σ x1 post) : Mz l D ad ty yX10_keeps cX10_keeps 3 (some .int) r_X10_keeps nI0 σ [.ref (ad 43), .int x1] post (fun _ _ => False) := by
  refine mz_of (by decide) hl hj (Nat.le_of_ble_eq_true rfl) ?_
  intro p e s m args below meth c K hex hr
  unfold P_X10_keeps at hp
  show Gz p l e r_X10_keeps s m args below meth c D ad ty 3 0 0 (Ez below D ad ty nI0 post (fun _ _ => False) args s 0 0) σ 0 [(0, .ref (ad 43)), (1, .int x1)] []
  refine gz_aload_n K dX10_keeps_0 0 rfl ?_
  refine gz_get K (v := .ref (ad 47)) (by decide) (ce_43 _ _ _ _ _ _) rfl inz_X10 5 (by decide) zq5_36 rfl dX10_keeps_1 ?_
  refine gz_iload_n K dX10_keeps_4 1 rfl ?_
  refine gz_aload_n K dX10_keeps_5 0 rfl ?_
  refine gz_get K (v := .int (gz_i σ 43 22)) (by decide) (ce_43 _ _ _ _ _ _) rfl inz_X10 22 (by decide) zq5_53 rfl dX10_keeps_6 ?_
  obtain ⟨h, hp⟩ := hp
  refine gz_iast K (x := (gz_i σ 43 22)) (by decide) (ce_47 ad ty) h dX10_keeps_9 ?_
  refine gz_iconst K (v := (0 : Int32)) dX10_keeps_10 (by decide) ?_
  refine gz_istore_n K [(2, .int (0 : Int32)), (0, .ref (ad 43)), (1, .int x1)] dX10_keeps_11 (by decide) rfl ?_
  refine gz_sub [1, 2, 0] rfl ?_
  have ll_12 : ∀ (n_12 : Nat) (σ : Dz) (y1 : Int32) (y2 : Int32) , L_X10_keeps_12 post  n_12 σ y1 y2 → Gz p l e r_X10_keeps s m args below meth c D ad ty 3 0 0 (Ez below D ad ty nI0 post (fun _ _ => False) args s 0 0) σ 12 [(0, .ref (ad 43)), (1, .int y1), (2, .int y2)] [] := by
    intro n_12; induction n_12 with
    | zero => intro σ y1 y2 hp; exact False.elim hp
    | succ n_12 ih_12 =>
      intro σ y1 y2 hp
      have hp : B_X10_keeps_12 post  (L_X10_keeps_12 post  n_12) σ y1 y2 := hp
      unfold B_X10_keeps_12 at hp
      refine gz_iload_n K dX10_keeps_12 2 rfl ?_
      refine gz_aload_n K dX10_keeps_13 0 rfl ?_
      refine gz_get K (v := .int (gz_i σ 43 22)) (by decide) (ce_43 _ _ _ _ _ _) rfl inz_X10 22 (by decide) zq5_53 rfl dX10_keeps_14 ?_
      refine gz_icmp_ge K 44 dX10_keeps_17 (by decide) (fun h => ?_) (fun h => ?_)
      · have hp := hp.1 h
        refine gz_aload_n K dX10_keeps_44 0 rfl ?_
        refine gz_aload_n K dX10_keeps_45 0 rfl ?_
        refine gz_get K (v := .int (gz_i σ 43 22)) (by decide) (ce_43 _ _ _ _ _ _) rfl inz_X10 22 (by decide) zq5_53 rfl dX10_keeps_46 ?_
        refine gz_callV K hex (c_X10_done K.2.2.2.2.2 K.2.2.1 hp) cf_X10_done zq5_153 (by decide) (ce_43 _ _ _ _ _ _) rfl dX10_keeps_49 rfl rfl (Nat.le_of_ble_eq_true rfl) ⟨Nat.le_of_ble_eq_true rfl, Nat.le_of_ble_eq_true rfl⟩ ⟨Nat.le_of_ble_eq_true rfl, Nat.le_of_ble_eq_true rfl⟩ (Nat.le_of_ble_eq_true rfl) (Nat.le_of_ble_eq_true rfl) (fun _ _ h => h.elim) (fun r49 τ49 hp => ?_)
        refine gz_norm (st' := [.int r49]) (cells' := 0) (slots' := 0) rfl rfl rfl ?_
        exact gz_iret K hr hp dX10_keeps_52 (Nat.le_of_ble_eq_true rfl) (Nat.le_of_ble_eq_true rfl)
      · have hp := hp.2 h
        refine gz_aload_n K dX10_keeps_20 0 rfl ?_
        refine gz_get K (v := .ref (ad 48)) (by decide) (ce_43 _ _ _ _ _ _) rfl inz_X10 6 (by decide) zq5_37 rfl dX10_keeps_21 ?_
        refine gz_sipush K (v := (200 : Int32)) dX10_keeps_24 (by decide) ?_
        refine gz_iload_n K dX10_keeps_27 1 rfl ?_
        refine gz_imul K dX10_keeps_28 ?_
        refine gz_iload_n K dX10_keeps_29 2 rfl ?_
        refine gz_iadd K dX10_keeps_30 ?_
        refine gz_aload_n K dX10_keeps_31 0 rfl ?_
        refine gz_get K (v := .ref (ad 59)) (by decide) (ce_43 _ _ _ _ _ _) rfl inz_X10 21 (by decide) zq5_52 rfl dX10_keeps_32 ?_
        refine gz_iload_n K dX10_keeps_35 2 rfl ?_
        obtain ⟨h, hp⟩ := hp
        refine gz_iald K (by decide) (ce_59 _ _ _ _ _ _) h dX10_keeps_36 ?_
        obtain ⟨h, hp⟩ := hp
        refine gz_iast K (x := (gz_i σ 59 (y2).toNatClampNeg)) (by decide) (ce_48 ad ty) h dX10_keeps_37 ?_
        refine gz_iinc K (v := (y2 + 1)) [(2, .int (y2 + 1)), (0, .ref (ad 43)), (1, .int y1)] dX10_keeps_38 2 rfl (by first | rfl | decide) (by decide) rfl ?_
        refine gz_goto K 12 dX10_keeps_41 (by decide) ?_
        refine gz_sub [1, 2, 0] rfl ?_
        exact ih_12 (sz_i σ 48 ((((200 : Int32) * y1) + y2)).toNatClampNeg (gz_i σ 59 (y2).toNatClampNeg)) y1 (y2 + 1)  hp
  obtain ⟨n, hp⟩ := hp
  exact ll_12 n (sz_i σ 47 (x1).toNatClampNeg (gz_i σ 43 22)) x1 (0 : Int32)  hp
set_option maxRecDepth 100000 in
set_option maxHeartbeats 4000000 in
theorem c_X10_clears {l : Launch} {D : va_G} {ad : Nat → Nat} {ty : Nat → ClassId} (hl : l.stackTraces = false) (hj : ∀ i j, i < 68 → j < 68 → ad i = ad j → i = j) {σ : Dz} {post : Dz → Prop} (hp : P_X10_clears σ post) : Mz l D ad ty yX10_clears cX10_clears 1 none r_X10_clears nV0 σ [.ref (ad 43)] (fun _ τ => post τ) (fun _ _ => False) := by
  refine mz_of (by decide) hl hj (Nat.le_of_ble_eq_true rfl) ?_
  intro p e s m args below meth c K hex hr
  unfold P_X10_clears at hp
  show Gz p l e r_X10_clears s m args below meth c D ad ty 1 0 0 (Ez below D ad ty nV0 (fun _ τ => post τ) (fun _ _ => False) args s 0 0) σ 0 [(0, .ref (ad 43))] []
  refine gz_aload_n K dX10_clears_0 0 rfl ?_
  refine gz_iconst K (v := (0 : Int32)) dX10_clears_1 (by decide) ?_
  refine gz_put K (x := (0 : Int32)) (by decide) (ce_43 _ _ _ _ _ _) rfl inz_X10 tyX10 tyX10_ok nmX10 22 (by decide) zq5_53 rfl (tyX10_ok _ (by decide)) rfl rfl (Nat.le_of_ble_eq_true rfl) peX10_22 dX10_clears_2 ?_
  refine gz_aload_n K dX10_clears_5 0 rfl ?_
  refine gz_iconst K (v := (0 : Int32)) dX10_clears_6 (by decide) ?_
  refine gz_put K (x := (0 : Int32)) (by decide) (ce_43 _ _ _ _ _ _) rfl inz_X10 tyX10 tyX10_ok nmX10 23 (by decide) zq5_54 rfl (tyX10_ok _ (by decide)) rfl rfl (Nat.le_of_ble_eq_true rfl) peX10_23 dX10_clears_7 ?_
  refine gz_aload_n K dX10_clears_10 0 rfl ?_
  refine gz_iconst K (v := (0 : Int32)) dX10_clears_11 (by decide) ?_
  refine gz_put K (x := (0 : Int32)) (by decide) (ce_43 _ _ _ _ _ _) rfl inz_X10 tyX10 tyX10_ok nmX10 24 (by decide) zq5_55 rfl (tyX10_ok _ (by decide)) rfl rfl (Nat.le_of_ble_eq_true rfl) peX10_24 dX10_clears_12 ?_
  refine gz_aload_n K dX10_clears_15 0 rfl ?_
  refine gz_iconst K (v := (0 : Int32)) dX10_clears_16 (by decide) ?_
  refine gz_put K (x := (0 : Int32)) (by decide) (ce_43 _ _ _ _ _ _) rfl inz_X10 tyX10 tyX10_ok nmX10 25 (by decide) zq5_56 rfl (tyX10_ok _ (by decide)) rfl rfl (Nat.le_of_ble_eq_true rfl) peX10_25 dX10_clears_17 ?_
  exact gz_vret K hr hp dX10_clears_20 (Nat.le_of_ble_eq_true rfl) (Nat.le_of_ble_eq_true rfl)
set_option maxRecDepth 100000 in
set_option maxHeartbeats 4000000 in
theorem c_X10_errorPosition {l : Launch} {D : va_G} {ad : Nat → Nat} {ty : Nat → ClassId} (hl : l.stackTraces = false) (hj : ∀ i j, i < 68 → j < 68 → ad i = ad j → i = j) {σ : Dz} {post : Int32 → Dz → Prop} (hp : P_X10_errorPosition σ post) : Mz l D ad ty yX10_errorPosition cX10_errorPosition 1 (some .int) r_X10_errorPosition nI0 σ [.ref (ad 43)] post (fun _ _ => False) := by
  refine mz_of (by decide) hl hj (Nat.le_of_ble_eq_true rfl) ?_
  intro p e s m args below meth c K hex hr
  unfold P_X10_errorPosition at hp
  show Gz p l e r_X10_errorPosition s m args below meth c D ad ty 1 0 0 (Ez below D ad ty nI0 post (fun _ _ => False) args s 0 0) σ 0 [(0, .ref (ad 43))] []
  refine gz_aload_n K dX10_errorPosition_0 0 rfl ?_
  refine gz_get K (v := .int (gz_i σ 43 9)) (by decide) (ce_43 _ _ _ _ _ _) rfl inz_X10 9 (by decide) zq5_40 rfl dX10_errorPosition_1 ?_
  refine gz_iconst K (v := (-1 : Int32)) dX10_errorPosition_4 (by decide) ?_
  refine gz_icmp_ne K 16 dX10_errorPosition_5 (by decide) (fun h => ?_) (fun h => ?_)
  · have hp := hp.1 h
    refine gz_aload_n K dX10_errorPosition_16 0 rfl ?_
    refine gz_aload_n K dX10_errorPosition_17 0 rfl ?_
    refine gz_get K (v := .int (gz_i σ 43 9)) (by decide) (ce_43 _ _ _ _ _ _) rfl inz_X10 9 (by decide) zq5_40 rfl dX10_errorPosition_18 ?_
    refine gz_callV K hex (c_X10_done K.2.2.2.2.2 K.2.2.1 hp) cf_X10_done zq5_153 (by decide) (ce_43 _ _ _ _ _ _) rfl dX10_errorPosition_21 rfl rfl (Nat.le_of_ble_eq_true rfl) ⟨Nat.le_of_ble_eq_true rfl, Nat.le_of_ble_eq_true rfl⟩ ⟨Nat.le_of_ble_eq_true rfl, Nat.le_of_ble_eq_true rfl⟩ (Nat.le_of_ble_eq_true rfl) (Nat.le_of_ble_eq_true rfl) (fun _ _ h => h.elim) (fun r21 τ21 hp => ?_)
    refine gz_norm (st' := [.int r21]) (cells' := 0) (slots' := 0) rfl rfl rfl ?_
    exact gz_iret K hr hp dX10_errorPosition_24 (Nat.le_of_ble_eq_true rfl) (Nat.le_of_ble_eq_true rfl)
  · have hp := hp.2 h
    refine gz_aload_n K dX10_errorPosition_8 0 rfl ?_
    refine gz_iconst K (v := (1 : Int32)) dX10_errorPosition_9 (by decide) ?_
    refine gz_callV K hex (c_X10_fails K.2.2.2.2.2 K.2.2.1 hp) cf_X10_fails zq5_149 (by decide) (ce_43 _ _ _ _ _ _) rfl dX10_errorPosition_10 rfl rfl (Nat.le_of_ble_eq_true rfl) ⟨Nat.le_of_ble_eq_true rfl, Nat.le_of_ble_eq_true rfl⟩ ⟨Nat.le_of_ble_eq_true rfl, Nat.le_of_ble_eq_true rfl⟩ (Nat.le_of_ble_eq_true rfl) (Nat.le_of_ble_eq_true rfl) (fun _ _ h => h.elim) (fun r10 τ10 hp => ?_)
    refine gz_norm (st' := [.int r10]) (cells' := 0) (slots' := 0) rfl rfl rfl ?_
    refine gz_goto K 24 dX10_errorPosition_13 (by decide) ?_
    exact gz_iret K hr hp dX10_errorPosition_24 (Nat.le_of_ble_eq_true rfl) (Nat.le_of_ble_eq_true rfl)
set_option maxRecDepth 100000 in
set_option maxHeartbeats 4000000 in
theorem c_X10_target {l : Launch} {D : va_G} {ad : Nat → Nat} {ty : Nat → ClassId} (hl : l.stackTraces = false) (hj : ∀ i j, i < 68 → j < 68 → ad i = ad j → i = j) {σ : Dz} {x1 : Int32} {x2 : Int32} {post : Int32 → Dz → Prop} (hp : P_X10_target σ x1 x2 post) : Mz l D ad ty yX10_target cX10_target 3 (some .int) r_X10_target nI0 σ [.ref (ad 43), .int x1, .int x2] post (fun _ _ => False) := by
  refine mz_of (by decide) hl hj (Nat.le_of_ble_eq_true rfl) ?_
  intro p e s m args below meth c K hex hr
  unfold P_X10_target at hp
  show Gz p l e r_X10_target s m args below meth c D ad ty 3 0 0 (Ez below D ad ty nI0 post (fun _ _ => False) args s 0 0) σ 0 [(0, .ref (ad 43)), (1, .int x1), (2, .int x2)] []
  refine gz_iload_n K dX10_target_0 1 rfl ?_
  refine gz_iconst K (v := (0 : Int32)) dX10_target_1 (by decide) ?_
  refine gz_iconst K (v := (4 : Int32)) dX10_target_2 (by decide) ?_
  refine gz_callS K hex (c_X10_in K.2.2.2.2.2 K.2.2.1 hp) cf_X10_in zq5_146 dX10_target_3 rfl rfl (Nat.le_of_ble_eq_true rfl) ⟨Nat.le_of_ble_eq_true rfl, Nat.le_of_ble_eq_true rfl⟩ ⟨Nat.le_of_ble_eq_true rfl, Nat.le_of_ble_eq_true rfl⟩ (Nat.le_of_ble_eq_true rfl) (Nat.le_of_ble_eq_true rfl) (fun _ _ h => h.elim) (fun r3 τ hp => ?_)
  obtain ⟨rfl, hp⟩ := hp
  refine gz_norm (st' := [.int r3]) (cells' := 0) (slots' := 0) rfl rfl rfl ?_
  refine gz_if_eq K 17 dX10_target_6 (by decide) (fun h => ?_) (fun h => ?_)
  · have hp := hp.1 h
    refine gz_aload_n K dX10_target_17 0 rfl ?_
    refine gz_iconst K (v := (1 : Int32)) dX10_target_18 (by decide) ?_
    refine gz_callV K hex (c_X10_fails K.2.2.2.2.2 K.2.2.1 hp) cf_X10_fails zq5_149 (by decide) (ce_43 _ _ _ _ _ _) rfl dX10_target_19 rfl rfl (Nat.le_of_ble_eq_true rfl) ⟨Nat.le_of_ble_eq_true rfl, Nat.le_of_ble_eq_true rfl⟩ ⟨Nat.le_of_ble_eq_true rfl, Nat.le_of_ble_eq_true rfl⟩ (Nat.le_of_ble_eq_true rfl) (Nat.le_of_ble_eq_true rfl) (fun _ _ h => h.elim) (fun r19 τ19 hp => ?_)
    refine gz_norm (st' := [.int r19]) (cells' := 0) (slots' := 0) rfl rfl rfl ?_
    exact gz_iret K hr hp dX10_target_22 (Nat.le_of_ble_eq_true rfl) (Nat.le_of_ble_eq_true rfl)
  · have hp := hp.2 h
    refine gz_aload_n K dX10_target_9 0 rfl ?_
    refine gz_iload_n K dX10_target_10 2 rfl ?_
    refine gz_callV K hex (c_X10_isPosition K.2.2.2.2.2 K.2.2.1 hp) cf_X10_isPosition zq5_181 (by decide) (ce_43 _ _ _ _ _ _) rfl dX10_target_11 rfl rfl (Nat.le_of_ble_eq_true rfl) ⟨Nat.le_of_ble_eq_true rfl, Nat.le_of_ble_eq_true rfl⟩ ⟨Nat.le_of_ble_eq_true rfl, Nat.le_of_ble_eq_true rfl⟩ (Nat.le_of_ble_eq_true rfl) (Nat.le_of_ble_eq_true rfl) (fun _ _ h => h.elim) (fun r11 τ hp => ?_)
    obtain ⟨rfl, hp⟩ := hp
    refine gz_norm (st' := [.int r11]) (cells' := 0) (slots' := 0) rfl rfl rfl ?_
    refine gz_if_ne K 23 dX10_target_14 (by decide) (fun h => ?_) (fun h => ?_)
    · have hp := hp.1 h
      refine gz_aload_n K dX10_target_23 0 rfl ?_
      refine gz_get K (v := .ref (ad 45)) (by decide) (ce_43 _ _ _ _ _ _) rfl inz_X10 3 (by decide) zq5_34 rfl dX10_target_24 ?_
      refine gz_iload_n K dX10_target_27 1 rfl ?_
      obtain ⟨h, hp⟩ := hp
      refine gz_zald K (by decide) (ce_45 _ _ _ _ _ _) h dX10_target_28 ?_
      refine gz_if_eq K 50 dX10_target_29 (by decide) (fun h => ?_) (fun h => ?_)
      · have hp := hp.1 h
        refine gz_aload_n K dX10_target_50 0 rfl ?_
        refine gz_iconst K (v := (2 : Int32)) dX10_target_51 (by decide) ?_
        refine gz_callV K hex (c_X10_fails K.2.2.2.2.2 K.2.2.1 hp) cf_X10_fails zq5_149 (by decide) (ce_43 _ _ _ _ _ _) rfl dX10_target_52 rfl rfl (Nat.le_of_ble_eq_true rfl) ⟨Nat.le_of_ble_eq_true rfl, Nat.le_of_ble_eq_true rfl⟩ ⟨Nat.le_of_ble_eq_true rfl, Nat.le_of_ble_eq_true rfl⟩ (Nat.le_of_ble_eq_true rfl) (Nat.le_of_ble_eq_true rfl) (fun _ _ h => h.elim) (fun r52 τ52 hp => ?_)
        refine gz_norm (st' := [.int r52]) (cells' := 0) (slots' := 0) rfl rfl rfl ?_
        exact gz_iret K hr hp dX10_target_55 (Nat.le_of_ble_eq_true rfl) (Nat.le_of_ble_eq_true rfl)
      · have hp := hp.2 h
        refine gz_aload_n K dX10_target_32 0 rfl ?_
        refine gz_aload_n K dX10_target_33 0 rfl ?_
        refine gz_get K (v := .ref (ad 46)) (by decide) (ce_43 _ _ _ _ _ _) rfl inz_X10 4 (by decide) zq5_35 rfl dX10_target_34 ?_
        refine gz_bipush K (v := (16 : Int32)) dX10_target_37 (by decide) ?_
        refine gz_iload_n K dX10_target_39 1 rfl ?_
        refine gz_imul K dX10_target_40 ?_
        refine gz_iload_n K dX10_target_41 2 rfl ?_
        refine gz_iadd K dX10_target_42 ?_
        obtain ⟨h, hp⟩ := hp
        refine gz_iald K (by decide) (ce_46 _ _ _ _ _ _) h dX10_target_43 ?_
        refine gz_callV K hex (c_X10_done K.2.2.2.2.2 K.2.2.1 hp) cf_X10_done zq5_153 (by decide) (ce_43 _ _ _ _ _ _) rfl dX10_target_44 rfl rfl (Nat.le_of_ble_eq_true rfl) ⟨Nat.le_of_ble_eq_true rfl, Nat.le_of_ble_eq_true rfl⟩ ⟨Nat.le_of_ble_eq_true rfl, Nat.le_of_ble_eq_true rfl⟩ (Nat.le_of_ble_eq_true rfl) (Nat.le_of_ble_eq_true rfl) (fun _ _ h => h.elim) (fun r44 τ44 hp => ?_)
        refine gz_norm (st' := [.int r44]) (cells' := 0) (slots' := 0) rfl rfl rfl ?_
        refine gz_goto K 55 dX10_target_47 (by decide) ?_
        exact gz_iret K hr hp dX10_target_55 (Nat.le_of_ble_eq_true rfl) (Nat.le_of_ble_eq_true rfl)
    · have hp := hp.2 h
      refine gz_aload_n K dX10_target_17 0 rfl ?_
      refine gz_iconst K (v := (1 : Int32)) dX10_target_18 (by decide) ?_
      refine gz_callV K hex (c_X10_fails K.2.2.2.2.2 K.2.2.1 hp) cf_X10_fails zq5_149 (by decide) (ce_43 _ _ _ _ _ _) rfl dX10_target_19 rfl rfl (Nat.le_of_ble_eq_true rfl) ⟨Nat.le_of_ble_eq_true rfl, Nat.le_of_ble_eq_true rfl⟩ ⟨Nat.le_of_ble_eq_true rfl, Nat.le_of_ble_eq_true rfl⟩ (Nat.le_of_ble_eq_true rfl) (Nat.le_of_ble_eq_true rfl) (fun _ _ h => h.elim) (fun r19 τ19 hp => ?_)
      refine gz_norm (st' := [.int r19]) (cells' := 0) (slots' := 0) rfl rfl rfl ?_
      exact gz_iret K hr hp dX10_target_22 (Nat.le_of_ble_eq_true rfl) (Nat.le_of_ble_eq_true rfl)
set_option maxRecDepth 100000 in
set_option maxHeartbeats 4000000 in
theorem c_X10_wordLength {l : Launch} {D : va_G} {ad : Nat → Nat} {ty : Nat → ClassId} (hl : l.stackTraces = false) (hj : ∀ i j, i < 68 → j < 68 → ad i = ad j → i = j) {σ : Dz} {x1 : Int32} {post : Int32 → Dz → Prop} (hp : P_X10_wordLength σ x1 post) : Mz l D ad ty yX10_wordLength cX10_wordLength 2 (some .int) r_X10_wordLength nI0 σ [.ref (ad 43), .int x1] post (fun _ _ => False) := by
  refine mz_of (by decide) hl hj (Nat.le_of_ble_eq_true rfl) ?_
  intro p e s m args below meth c K hex hr
  unfold P_X10_wordLength at hp
  show Gz p l e r_X10_wordLength s m args below meth c D ad ty 2 0 0 (Ez below D ad ty nI0 post (fun _ _ => False) args s 0 0) σ 0 [(0, .ref (ad 43)), (1, .int x1)] []
  refine gz_iload_n K dX10_wordLength_0 1 rfl ?_
  refine gz_callS K hex (c_X10_isSlot K.2.2.2.2.2 K.2.2.1 hp) cf_X10_isSlot zq5_189 dX10_wordLength_1 rfl rfl (Nat.le_of_ble_eq_true rfl) ⟨Nat.le_of_ble_eq_true rfl, Nat.le_of_ble_eq_true rfl⟩ ⟨Nat.le_of_ble_eq_true rfl, Nat.le_of_ble_eq_true rfl⟩ (Nat.le_of_ble_eq_true rfl) (Nat.le_of_ble_eq_true rfl) (fun _ _ h => h.elim) (fun r1 τ hp => ?_)
  obtain ⟨rfl, hp⟩ := hp
  refine gz_norm (st' := [.int r1]) (cells' := 0) (slots' := 0) rfl rfl rfl ?_
  refine gz_if_eq K 20 dX10_wordLength_4 (by decide) (fun h => ?_) (fun h => ?_)
  · have hp := hp.1 h
    refine gz_aload_n K dX10_wordLength_20 0 rfl ?_
    refine gz_iconst K (v := (1 : Int32)) dX10_wordLength_21 (by decide) ?_
    refine gz_callV K hex (c_X10_fails K.2.2.2.2.2 K.2.2.1 hp) cf_X10_fails zq5_149 (by decide) (ce_43 _ _ _ _ _ _) rfl dX10_wordLength_22 rfl rfl (Nat.le_of_ble_eq_true rfl) ⟨Nat.le_of_ble_eq_true rfl, Nat.le_of_ble_eq_true rfl⟩ ⟨Nat.le_of_ble_eq_true rfl, Nat.le_of_ble_eq_true rfl⟩ (Nat.le_of_ble_eq_true rfl) (Nat.le_of_ble_eq_true rfl) (fun _ _ h => h.elim) (fun r22 τ22 hp => ?_)
    refine gz_norm (st' := [.int r22]) (cells' := 0) (slots' := 0) rfl rfl rfl ?_
    exact gz_iret K hr hp dX10_wordLength_25 (Nat.le_of_ble_eq_true rfl) (Nat.le_of_ble_eq_true rfl)
  · have hp := hp.2 h
    refine gz_aload_n K dX10_wordLength_7 0 rfl ?_
    refine gz_aload_n K dX10_wordLength_8 0 rfl ?_
    refine gz_get K (v := .ref (ad 47)) (by decide) (ce_43 _ _ _ _ _ _) rfl inz_X10 5 (by decide) zq5_36 rfl dX10_wordLength_9 ?_
    refine gz_iload_n K dX10_wordLength_12 1 rfl ?_
    obtain ⟨h, hp⟩ := hp
    refine gz_iald K (by decide) (ce_47 _ _ _ _ _ _) h dX10_wordLength_13 ?_
    refine gz_callV K hex (c_X10_done K.2.2.2.2.2 K.2.2.1 hp) cf_X10_done zq5_153 (by decide) (ce_43 _ _ _ _ _ _) rfl dX10_wordLength_14 rfl rfl (Nat.le_of_ble_eq_true rfl) ⟨Nat.le_of_ble_eq_true rfl, Nat.le_of_ble_eq_true rfl⟩ ⟨Nat.le_of_ble_eq_true rfl, Nat.le_of_ble_eq_true rfl⟩ (Nat.le_of_ble_eq_true rfl) (Nat.le_of_ble_eq_true rfl) (fun _ _ h => h.elim) (fun r14 τ14 hp => ?_)
    refine gz_norm (st' := [.int r14]) (cells' := 0) (slots' := 0) rfl rfl rfl ?_
    refine gz_goto K 25 dX10_wordLength_17 (by decide) ?_
    exact gz_iret K hr hp dX10_wordLength_25 (Nat.le_of_ble_eq_true rfl) (Nat.le_of_ble_eq_true rfl)
set_option maxRecDepth 100000 in
set_option maxHeartbeats 4000000 in
theorem c_X10_letter {l : Launch} {D : va_G} {ad : Nat → Nat} {ty : Nat → ClassId} (hl : l.stackTraces = false) (hj : ∀ i j, i < 68 → j < 68 → ad i = ad j → i = j) {σ : Dz} {x1 : Int32} {x2 : Int32} {post : Int32 → Dz → Prop} (hp : P_X10_letter σ x1 x2 post) : Mz l D ad ty yX10_letter cX10_letter 3 (some .int) r_X10_letter nI0 σ [.ref (ad 43), .int x1, .int x2] post (fun _ _ => False) := by
  refine mz_of (by decide) hl hj (Nat.le_of_ble_eq_true rfl) ?_
  intro p e s m args below meth c K hex hr
  unfold P_X10_letter at hp
  show Gz p l e r_X10_letter s m args below meth c D ad ty 3 0 0 (Ez below D ad ty nI0 post (fun _ _ => False) args s 0 0) σ 0 [(0, .ref (ad 43)), (1, .int x1), (2, .int x2)] []
  refine gz_iload_n K dX10_letter_0 1 rfl ?_
  refine gz_callS K hex (c_X10_isSlot K.2.2.2.2.2 K.2.2.1 hp) cf_X10_isSlot zq5_189 dX10_letter_1 rfl rfl (Nat.le_of_ble_eq_true rfl) ⟨Nat.le_of_ble_eq_true rfl, Nat.le_of_ble_eq_true rfl⟩ ⟨Nat.le_of_ble_eq_true rfl, Nat.le_of_ble_eq_true rfl⟩ (Nat.le_of_ble_eq_true rfl) (Nat.le_of_ble_eq_true rfl) (fun _ _ h => h.elim) (fun r1 τ hp => ?_)
  obtain ⟨rfl, hp⟩ := hp
  refine gz_norm (st' := [.int r1]) (cells' := 0) (slots' := 0) rfl rfl rfl ?_
  refine gz_if_eq K 23 dX10_letter_4 (by decide) (fun h => ?_) (fun h => ?_)
  · have hp := hp.1 h
    refine gz_aload_n K dX10_letter_23 0 rfl ?_
    refine gz_iconst K (v := (1 : Int32)) dX10_letter_24 (by decide) ?_
    refine gz_callV K hex (c_X10_fails K.2.2.2.2.2 K.2.2.1 hp) cf_X10_fails zq5_149 (by decide) (ce_43 _ _ _ _ _ _) rfl dX10_letter_25 rfl rfl (Nat.le_of_ble_eq_true rfl) ⟨Nat.le_of_ble_eq_true rfl, Nat.le_of_ble_eq_true rfl⟩ ⟨Nat.le_of_ble_eq_true rfl, Nat.le_of_ble_eq_true rfl⟩ (Nat.le_of_ble_eq_true rfl) (Nat.le_of_ble_eq_true rfl) (fun _ _ h => h.elim) (fun r25 τ25 hp => ?_)
    refine gz_norm (st' := [.int r25]) (cells' := 0) (slots' := 0) rfl rfl rfl ?_
    exact gz_iret K hr hp dX10_letter_28 (Nat.le_of_ble_eq_true rfl) (Nat.le_of_ble_eq_true rfl)
  · have hp := hp.2 h
    refine gz_iload_n K dX10_letter_7 2 rfl ?_
    refine gz_iconst K (v := (0 : Int32)) dX10_letter_8 (by decide) ?_
    refine gz_aload_n K dX10_letter_9 0 rfl ?_
    refine gz_get K (v := .ref (ad 47)) (by decide) (ce_43 _ _ _ _ _ _) rfl inz_X10 5 (by decide) zq5_36 rfl dX10_letter_10 ?_
    refine gz_iload_n K dX10_letter_13 1 rfl ?_
    obtain ⟨h, hp⟩ := hp
    refine gz_iald K (by decide) (ce_47 _ _ _ _ _ _) h dX10_letter_14 ?_
    refine gz_iconst K (v := (1 : Int32)) dX10_letter_15 (by decide) ?_
    refine gz_isub K dX10_letter_16 ?_
    refine gz_callS K hex (c_X10_in K.2.2.2.2.2 K.2.2.1 hp) cf_X10_in zq5_146 dX10_letter_17 rfl rfl (Nat.le_of_ble_eq_true rfl) ⟨Nat.le_of_ble_eq_true rfl, Nat.le_of_ble_eq_true rfl⟩ ⟨Nat.le_of_ble_eq_true rfl, Nat.le_of_ble_eq_true rfl⟩ (Nat.le_of_ble_eq_true rfl) (Nat.le_of_ble_eq_true rfl) (fun _ _ h => h.elim) (fun r17 τ hp => ?_)
    obtain ⟨rfl, hp⟩ := hp
    refine gz_norm (st' := [.int r17]) (cells' := 0) (slots' := 0) rfl rfl rfl ?_
    refine gz_if_ne K 29 dX10_letter_20 (by decide) (fun h => ?_) (fun h => ?_)
    · have hp := hp.1 h
      refine gz_aload_n K dX10_letter_29 0 rfl ?_
      refine gz_aload_n K dX10_letter_30 0 rfl ?_
      refine gz_get K (v := .ref (ad 48)) (by decide) (ce_43 _ _ _ _ _ _) rfl inz_X10 6 (by decide) zq5_37 rfl dX10_letter_31 ?_
      refine gz_sipush K (v := (200 : Int32)) dX10_letter_34 (by decide) ?_
      refine gz_iload_n K dX10_letter_37 1 rfl ?_
      refine gz_imul K dX10_letter_38 ?_
      refine gz_iload_n K dX10_letter_39 2 rfl ?_
      refine gz_iadd K dX10_letter_40 ?_
      obtain ⟨h, hp⟩ := hp
      refine gz_iald K (by decide) (ce_48 _ _ _ _ _ _) h dX10_letter_41 ?_
      refine gz_callV K hex (c_X10_done K.2.2.2.2.2 K.2.2.1 hp) cf_X10_done zq5_153 (by decide) (ce_43 _ _ _ _ _ _) rfl dX10_letter_42 rfl rfl (Nat.le_of_ble_eq_true rfl) ⟨Nat.le_of_ble_eq_true rfl, Nat.le_of_ble_eq_true rfl⟩ ⟨Nat.le_of_ble_eq_true rfl, Nat.le_of_ble_eq_true rfl⟩ (Nat.le_of_ble_eq_true rfl) (Nat.le_of_ble_eq_true rfl) (fun _ _ h => h.elim) (fun r42 τ42 hp => ?_)
      refine gz_norm (st' := [.int r42]) (cells' := 0) (slots' := 0) rfl rfl rfl ?_
      exact gz_iret K hr hp dX10_letter_45 (Nat.le_of_ble_eq_true rfl) (Nat.le_of_ble_eq_true rfl)
    · have hp := hp.2 h
      refine gz_aload_n K dX10_letter_23 0 rfl ?_
      refine gz_iconst K (v := (1 : Int32)) dX10_letter_24 (by decide) ?_
      refine gz_callV K hex (c_X10_fails K.2.2.2.2.2 K.2.2.1 hp) cf_X10_fails zq5_149 (by decide) (ce_43 _ _ _ _ _ _) rfl dX10_letter_25 rfl rfl (Nat.le_of_ble_eq_true rfl) ⟨Nat.le_of_ble_eq_true rfl, Nat.le_of_ble_eq_true rfl⟩ ⟨Nat.le_of_ble_eq_true rfl, Nat.le_of_ble_eq_true rfl⟩ (Nat.le_of_ble_eq_true rfl) (Nat.le_of_ble_eq_true rfl) (fun _ _ h => h.elim) (fun r25 τ25 hp => ?_)
      refine gz_norm (st' := [.int r25]) (cells' := 0) (slots' := 0) rfl rfl rfl ?_
      exact gz_iret K hr hp dX10_letter_28 (Nat.le_of_ble_eq_true rfl) (Nat.le_of_ble_eq_true rfl)
set_option maxRecDepth 100000 in
set_option maxHeartbeats 4000000 in
theorem c_X10_comesWord {l : Launch} {D : va_G} {ad : Nat → Nat} {ty : Nat → ClassId} (hl : l.stackTraces = false) (hj : ∀ i j, i < 68 → j < 68 → ad i = ad j → i = j) {σ : Dz} {x1 : Int32} {x2 : Int32} {post : Dz → Prop} (hp : P_X10_comesWord σ x1 x2 post) : Mz l D ad ty yX10_comesWord cX10_comesWord 5 none r_X10_comesWord nV0 σ [.ref (ad 43), .int x1, .int x2] (fun _ τ => post τ) (fun _ _ => False) := by
  refine mz_of (by decide) hl hj (Nat.le_of_ble_eq_true rfl) ?_
  intro p e s m args below meth c K hex hr
  unfold P_X10_comesWord at hp
  show Gz p l e r_X10_comesWord s m args below meth c D ad ty 5 0 0 (Ez below D ad ty nV0 (fun _ τ => post τ) (fun _ _ => False) args s 0 0) σ 0 [(0, .ref (ad 43)), (1, .int x1), (2, .int x2)] []
  refine gz_aload_n K dX10_comesWord_0 0 rfl ?_
  refine gz_get K (v := .ref (ad 47)) (by decide) (ce_43 _ _ _ _ _ _) rfl inz_X10 5 (by decide) zq5_36 rfl dX10_comesWord_1 ?_
  refine gz_iload_n K dX10_comesWord_4 1 rfl ?_
  obtain ⟨h, hp⟩ := hp
  refine gz_iald K (by decide) (ce_47 _ _ _ _ _ _) h dX10_comesWord_5 ?_
  refine gz_istore_n K [(3, .int (gz_i σ 47 (x1).toNatClampNeg)), (0, .ref (ad 43)), (1, .int x1), (2, .int x2)] dX10_comesWord_6 (by decide) rfl ?_
  refine gz_iconst K (v := (0 : Int32)) dX10_comesWord_7 (by decide) ?_
  refine gz_istore K [(4, .int (0 : Int32)), (3, .int (gz_i σ 47 (x1).toNatClampNeg)), (0, .ref (ad 43)), (1, .int x1), (2, .int x2)] dX10_comesWord_8 (by decide) rfl ?_
  refine gz_sub [2, 3, 4, 1, 0] rfl ?_
  have ll_10 : ∀ (n_10 : Nat) (σ : Dz) (y1 : Int32) (y2 : Int32) (y3 : Int32) (y4 : Int32) , L_X10_comesWord_10 post  n_10 σ y1 y2 y3 y4 → Gz p l e r_X10_comesWord s m args below meth c D ad ty 5 0 0 (Ez below D ad ty nV0 (fun _ τ => post τ) (fun _ _ => False) args s 0 0) σ 10 [(0, .ref (ad 43)), (1, .int y1), (2, .int y2), (3, .int y3), (4, .int y4)] [] := by
    intro n_10; induction n_10 with
    | zero => intro σ y1 y2 y3 y4 hp; exact False.elim hp
    | succ n_10 ih_10 =>
      intro σ y1 y2 y3 y4 hp
      have hp : B_X10_comesWord_10 post  (L_X10_comesWord_10 post  n_10) σ y1 y2 y3 y4 := hp
      unfold B_X10_comesWord_10 at hp
      have bb_56 : ∀ (σ : Dz) (y1 : Int32) (y2 : Int32) (y3 : Int32) (y4 : Int32) (z0 : Int32) , B_X10_comesWord_56 post (L_X10_comesWord_10 post  n_10) σ y1 y2 y3 y4 z0 → Gz p l e r_X10_comesWord s m args below meth c D ad ty 5 0 0 (Ez below D ad ty nV0 (fun _ τ => post τ) (fun _ _ => False) args s 0 0) σ 56 [(0, .ref (ad 43)), (1, .int y1), (2, .int y2), (3, .int y3), (4, .int y4)] [.int z0, .ref (ad 43)] := by
        intro σ y1 y2 y3 y4 z0 hp
        unfold B_X10_comesWord_56 at hp
        refine gz_callV K hex (c_X10_comes K.2.2.2.2.2 K.2.2.1 hp) cf_X10_comes zq5_202 (by decide) (ce_43 _ _ _ _ _ _) rfl dX10_comesWord_56 rfl rfl (Nat.le_of_ble_eq_true rfl) ⟨Nat.le_of_ble_eq_true rfl, Nat.le_of_ble_eq_true rfl⟩ ⟨Nat.le_of_ble_eq_true rfl, Nat.le_of_ble_eq_true rfl⟩ (Nat.le_of_ble_eq_true rfl) (Nat.le_of_ble_eq_true rfl) (fun _ _ h => h.elim) (fun _ τ56 hp => ?_)
        refine gz_norm (st' := []) (cells' := 0) (slots' := 0) rfl rfl rfl ?_
        refine gz_iinc K (v := (y4 + 1)) [(4, .int (y4 + 1)), (0, .ref (ad 43)), (1, .int y1), (2, .int y2), (3, .int y3)] dX10_comesWord_59 4 rfl (by first | rfl | decide) (by decide) rfl ?_
        refine gz_goto K 10 dX10_comesWord_62 (by decide) ?_
        refine gz_sub [1, 2, 3, 4, 0] rfl ?_
        exact ih_10 τ56 y1 y2 y3 (y4 + 1)  hp
      refine gz_iload K dX10_comesWord_10 4 rfl ?_
      refine gz_iload_n K dX10_comesWord_12 3 rfl ?_
      refine gz_icmp_ge K 65 dX10_comesWord_13 (by decide) (fun h => ?_) (fun h => ?_)
      · have hp := hp.1 h
        exact gz_vret K hr hp dX10_comesWord_65 (Nat.le_of_ble_eq_true rfl) (Nat.le_of_ble_eq_true rfl)
      · have hp := hp.2 h
        refine gz_aload_n K dX10_comesWord_16 0 rfl ?_
        refine gz_iload_n K dX10_comesWord_17 2 rfl ?_
        refine gz_if_eq K 43 dX10_comesWord_18 (by decide) (fun h => ?_) (fun h => ?_)
        · have hp := hp.1 h
          refine gz_aload_n K dX10_comesWord_43 0 rfl ?_
          refine gz_get K (v := .ref (ad 48)) (by decide) (ce_43 _ _ _ _ _ _) rfl inz_X10 6 (by decide) zq5_37 rfl dX10_comesWord_44 ?_
          refine gz_sipush K (v := (200 : Int32)) dX10_comesWord_47 (by decide) ?_
          refine gz_iload_n K dX10_comesWord_50 1 rfl ?_
          refine gz_imul K dX10_comesWord_51 ?_
          refine gz_iload K dX10_comesWord_52 4 rfl ?_
          refine gz_iadd K dX10_comesWord_54 ?_
          obtain ⟨h, hp⟩ := hp
          refine gz_iald K (by decide) (ce_48 _ _ _ _ _ _) h dX10_comesWord_55 ?_
          exact bb_56 σ y1 y2 y3 y4 (gz_i σ 48 ((((200 : Int32) * y1) + y4)).toNatClampNeg)  hp
        · have hp := hp.2 h
          refine gz_aload_n K dX10_comesWord_21 0 rfl ?_
          refine gz_get K (v := .ref (ad 48)) (by decide) (ce_43 _ _ _ _ _ _) rfl inz_X10 6 (by decide) zq5_37 rfl dX10_comesWord_22 ?_
          refine gz_sipush K (v := (200 : Int32)) dX10_comesWord_25 (by decide) ?_
          refine gz_iload_n K dX10_comesWord_28 1 rfl ?_
          refine gz_imul K dX10_comesWord_29 ?_
          refine gz_iload_n K dX10_comesWord_30 3 rfl ?_
          refine gz_iadd K dX10_comesWord_31 ?_
          refine gz_iconst K (v := (1 : Int32)) dX10_comesWord_32 (by decide) ?_
          refine gz_isub K dX10_comesWord_33 ?_
          refine gz_iload K dX10_comesWord_34 4 rfl ?_
          refine gz_isub K dX10_comesWord_36 ?_
          obtain ⟨h, hp⟩ := hp
          refine gz_iald K (by decide) (ce_48 _ _ _ _ _ _) h dX10_comesWord_37 ?_
          refine gz_iconst K (v := (1 : Int32)) dX10_comesWord_38 (by decide) ?_
          refine gz_ixor K dX10_comesWord_39 ?_
          refine gz_goto K 56 dX10_comesWord_40 (by decide) ?_
          exact bb_56 σ y1 y2 y3 y4 ((gz_i σ 48 ((((((200 : Int32) * y1) + y3) - (1 : Int32)) - y4)).toNatClampNeg) ^^^ (1 : Int32))  hp
  obtain ⟨n, hp⟩ := hp
  exact ll_10 n σ x1 x2 (gz_i σ 47 (x1).toNatClampNeg) (0 : Int32)  hp
set_option maxRecDepth 100000 in
set_option maxHeartbeats 4000000 in
theorem c_X10_invert {l : Launch} {D : va_G} {ad : Nat → Nat} {ty : Nat → ClassId} (hl : l.stackTraces = false) (hj : ∀ i j, i < 68 → j < 68 → ad i = ad j → i = j) {σ : Dz} {x1 : Int32} {x2 : Int32} {post : Int32 → Dz → Prop} (hp : P_X10_invert σ x1 x2 post) : Mz l D ad ty yX10_invert cX10_invert 3 (some .int) r_X10_invert nI0 σ [.ref (ad 43), .int x1, .int x2] post (fun _ _ => False) := by
  refine mz_of (by decide) hl hj (Nat.le_of_ble_eq_true rfl) ?_
  intro p e s m args below meth c K hex hr
  unfold P_X10_invert at hp
  show Gz p l e r_X10_invert s m args below meth c D ad ty 3 0 0 (Ez below D ad ty nI0 post (fun _ _ => False) args s 0 0) σ 0 [(0, .ref (ad 43)), (1, .int x1), (2, .int x2)] []
  refine gz_iload_n K dX10_invert_0 1 rfl ?_
  refine gz_callS K hex (c_X10_isSlot K.2.2.2.2.2 K.2.2.1 hp) cf_X10_isSlot zq5_189 dX10_invert_1 rfl rfl (Nat.le_of_ble_eq_true rfl) ⟨Nat.le_of_ble_eq_true rfl, Nat.le_of_ble_eq_true rfl⟩ ⟨Nat.le_of_ble_eq_true rfl, Nat.le_of_ble_eq_true rfl⟩ (Nat.le_of_ble_eq_true rfl) (Nat.le_of_ble_eq_true rfl) (fun _ _ h => h.elim) (fun r1 τ hp => ?_)
  obtain ⟨rfl, hp⟩ := hp
  refine gz_norm (st' := [.int r1]) (cells' := 0) (slots' := 0) rfl rfl rfl ?_
  refine gz_if_eq K 14 dX10_invert_4 (by decide) (fun h => ?_) (fun h => ?_)
  · have hp := hp.1 h
    refine gz_aload_n K dX10_invert_14 0 rfl ?_
    refine gz_iconst K (v := (1 : Int32)) dX10_invert_15 (by decide) ?_
    refine gz_callV K hex (c_X10_fails K.2.2.2.2.2 K.2.2.1 hp) cf_X10_fails zq5_149 (by decide) (ce_43 _ _ _ _ _ _) rfl dX10_invert_16 rfl rfl (Nat.le_of_ble_eq_true rfl) ⟨Nat.le_of_ble_eq_true rfl, Nat.le_of_ble_eq_true rfl⟩ ⟨Nat.le_of_ble_eq_true rfl, Nat.le_of_ble_eq_true rfl⟩ (Nat.le_of_ble_eq_true rfl) (Nat.le_of_ble_eq_true rfl) (fun _ _ h => h.elim) (fun r16 τ16 hp => ?_)
    refine gz_norm (st' := [.int r16]) (cells' := 0) (slots' := 0) rfl rfl rfl ?_
    exact gz_iret K hr hp dX10_invert_19 (Nat.le_of_ble_eq_true rfl) (Nat.le_of_ble_eq_true rfl)
  · have hp := hp.2 h
    refine gz_iload_n K dX10_invert_7 2 rfl ?_
    refine gz_callS K hex (c_X10_isSlot K.2.2.2.2.2 K.2.2.1 hp) cf_X10_isSlot zq5_189 dX10_invert_8 rfl rfl (Nat.le_of_ble_eq_true rfl) ⟨Nat.le_of_ble_eq_true rfl, Nat.le_of_ble_eq_true rfl⟩ ⟨Nat.le_of_ble_eq_true rfl, Nat.le_of_ble_eq_true rfl⟩ (Nat.le_of_ble_eq_true rfl) (Nat.le_of_ble_eq_true rfl) (fun _ _ h => h.elim) (fun r8 τ hp => ?_)
    obtain ⟨rfl, hp⟩ := hp
    refine gz_norm (st' := [.int r8]) (cells' := 0) (slots' := 0) rfl rfl rfl ?_
    refine gz_if_ne K 20 dX10_invert_11 (by decide) (fun h => ?_) (fun h => ?_)
    · have hp := hp.1 h
      refine gz_aload_n K dX10_invert_20 0 rfl ?_
      refine gz_callV K hex (c_X10_clears K.2.2.2.2.2 K.2.2.1 hp) cf_X10_clears zq5_192 (by decide) (ce_43 _ _ _ _ _ _) rfl dX10_invert_21 rfl rfl (Nat.le_of_ble_eq_true rfl) ⟨Nat.le_of_ble_eq_true rfl, Nat.le_of_ble_eq_true rfl⟩ ⟨Nat.le_of_ble_eq_true rfl, Nat.le_of_ble_eq_true rfl⟩ (Nat.le_of_ble_eq_true rfl) (Nat.le_of_ble_eq_true rfl) (fun _ _ h => h.elim) (fun _ τ21 hp => ?_)
      refine gz_norm (st' := []) (cells' := 0) (slots' := 0) rfl rfl rfl ?_
      refine gz_aload_n K dX10_invert_24 0 rfl ?_
      refine gz_iload_n K dX10_invert_25 2 rfl ?_
      refine gz_iconst K (v := (1 : Int32)) dX10_invert_26 (by decide) ?_
      refine gz_callV K hex (c_X10_comesWord K.2.2.2.2.2 K.2.2.1 hp) cf_X10_comesWord zq6_2 (by decide) (ce_43 _ _ _ _ _ _) rfl dX10_invert_27 rfl rfl (Nat.le_of_ble_eq_true rfl) ⟨Nat.le_of_ble_eq_true rfl, Nat.le_of_ble_eq_true rfl⟩ ⟨Nat.le_of_ble_eq_true rfl, Nat.le_of_ble_eq_true rfl⟩ (Nat.le_of_ble_eq_true rfl) (Nat.le_of_ble_eq_true rfl) (fun _ _ h => h.elim) (fun _ τ27 hp => ?_)
      refine gz_norm (st' := []) (cells' := 0) (slots' := 0) rfl rfl rfl ?_
      refine gz_aload_n K dX10_invert_30 0 rfl ?_
      refine gz_iload_n K dX10_invert_31 1 rfl ?_
      refine gz_callV K hex (c_X10_keeps K.2.2.2.2.2 K.2.2.1 hp) cf_X10_keeps zq5_218 (by decide) (ce_43 _ _ _ _ _ _) rfl dX10_invert_32 rfl rfl (Nat.le_of_ble_eq_true rfl) ⟨Nat.le_of_ble_eq_true rfl, Nat.le_of_ble_eq_true rfl⟩ ⟨Nat.le_of_ble_eq_true rfl, Nat.le_of_ble_eq_true rfl⟩ (Nat.le_of_ble_eq_true rfl) (Nat.le_of_ble_eq_true rfl) (fun _ _ h => h.elim) (fun r32 τ32 hp => ?_)
      refine gz_norm (st' := [.int r32]) (cells' := 0) (slots' := 0) rfl rfl rfl ?_
      exact gz_iret K hr hp dX10_invert_35 (Nat.le_of_ble_eq_true rfl) (Nat.le_of_ble_eq_true rfl)
    · have hp := hp.2 h
      refine gz_aload_n K dX10_invert_14 0 rfl ?_
      refine gz_iconst K (v := (1 : Int32)) dX10_invert_15 (by decide) ?_
      refine gz_callV K hex (c_X10_fails K.2.2.2.2.2 K.2.2.1 hp) cf_X10_fails zq5_149 (by decide) (ce_43 _ _ _ _ _ _) rfl dX10_invert_16 rfl rfl (Nat.le_of_ble_eq_true rfl) ⟨Nat.le_of_ble_eq_true rfl, Nat.le_of_ble_eq_true rfl⟩ ⟨Nat.le_of_ble_eq_true rfl, Nat.le_of_ble_eq_true rfl⟩ (Nat.le_of_ble_eq_true rfl) (Nat.le_of_ble_eq_true rfl) (fun _ _ h => h.elim) (fun r16 τ16 hp => ?_)
      refine gz_norm (st' := [.int r16]) (cells' := 0) (slots' := 0) rfl rfl rfl ?_
      exact gz_iret K hr hp dX10_invert_19 (Nat.le_of_ble_eq_true rfl) (Nat.le_of_ble_eq_true rfl)
set_option maxRecDepth 100000 in
set_option maxHeartbeats 4000000 in
theorem c_X10_conjugate {l : Launch} {D : va_G} {ad : Nat → Nat} {ty : Nat → ClassId} (hl : l.stackTraces = false) (hj : ∀ i j, i < 68 → j < 68 → ad i = ad j → i = j) {σ : Dz} {x1 : Int32} {x2 : Int32} {x3 : Int32} {post : Int32 → Dz → Prop} (hp : P_X10_conjugate σ x1 x2 x3 post) : Mz l D ad ty yX10_conjugate cX10_conjugate 4 (some .int) r_X10_conjugate nI0 σ [.ref (ad 43), .int x1, .int x2, .int x3] post (fun _ _ => False) := by
  refine mz_of (by decide) hl hj (Nat.le_of_ble_eq_true rfl) ?_
  intro p e s m args below meth c K hex hr
  unfold P_X10_conjugate at hp
  show Gz p l e r_X10_conjugate s m args below meth c D ad ty 4 0 0 (Ez below D ad ty nI0 post (fun _ _ => False) args s 0 0) σ 0 [(0, .ref (ad 43)), (1, .int x1), (2, .int x2), (3, .int x3)] []
  refine gz_iload_n K dX10_conjugate_0 1 rfl ?_
  refine gz_callS K hex (c_X10_isSlot K.2.2.2.2.2 K.2.2.1 hp) cf_X10_isSlot zq5_189 dX10_conjugate_1 rfl rfl (Nat.le_of_ble_eq_true rfl) ⟨Nat.le_of_ble_eq_true rfl, Nat.le_of_ble_eq_true rfl⟩ ⟨Nat.le_of_ble_eq_true rfl, Nat.le_of_ble_eq_true rfl⟩ (Nat.le_of_ble_eq_true rfl) (Nat.le_of_ble_eq_true rfl) (fun _ _ h => h.elim) (fun r1 τ hp => ?_)
  obtain ⟨rfl, hp⟩ := hp
  refine gz_norm (st' := [.int r1]) (cells' := 0) (slots' := 0) rfl rfl rfl ?_
  refine gz_if_eq K 21 dX10_conjugate_4 (by decide) (fun h => ?_) (fun h => ?_)
  · have hp := hp.1 h
    refine gz_aload_n K dX10_conjugate_21 0 rfl ?_
    refine gz_iconst K (v := (1 : Int32)) dX10_conjugate_22 (by decide) ?_
    refine gz_callV K hex (c_X10_fails K.2.2.2.2.2 K.2.2.1 hp) cf_X10_fails zq5_149 (by decide) (ce_43 _ _ _ _ _ _) rfl dX10_conjugate_23 rfl rfl (Nat.le_of_ble_eq_true rfl) ⟨Nat.le_of_ble_eq_true rfl, Nat.le_of_ble_eq_true rfl⟩ ⟨Nat.le_of_ble_eq_true rfl, Nat.le_of_ble_eq_true rfl⟩ (Nat.le_of_ble_eq_true rfl) (Nat.le_of_ble_eq_true rfl) (fun _ _ h => h.elim) (fun r23 τ23 hp => ?_)
    refine gz_norm (st' := [.int r23]) (cells' := 0) (slots' := 0) rfl rfl rfl ?_
    exact gz_iret K hr hp dX10_conjugate_26 (Nat.le_of_ble_eq_true rfl) (Nat.le_of_ble_eq_true rfl)
  · have hp := hp.2 h
    refine gz_iload_n K dX10_conjugate_7 2 rfl ?_
    refine gz_callS K hex (c_X10_isSlot K.2.2.2.2.2 K.2.2.1 hp) cf_X10_isSlot zq5_189 dX10_conjugate_8 rfl rfl (Nat.le_of_ble_eq_true rfl) ⟨Nat.le_of_ble_eq_true rfl, Nat.le_of_ble_eq_true rfl⟩ ⟨Nat.le_of_ble_eq_true rfl, Nat.le_of_ble_eq_true rfl⟩ (Nat.le_of_ble_eq_true rfl) (Nat.le_of_ble_eq_true rfl) (fun _ _ h => h.elim) (fun r8 τ hp => ?_)
    obtain ⟨rfl, hp⟩ := hp
    refine gz_norm (st' := [.int r8]) (cells' := 0) (slots' := 0) rfl rfl rfl ?_
    refine gz_if_eq K 21 dX10_conjugate_11 (by decide) (fun h => ?_) (fun h => ?_)
    · have hp := hp.1 h
      refine gz_aload_n K dX10_conjugate_21 0 rfl ?_
      refine gz_iconst K (v := (1 : Int32)) dX10_conjugate_22 (by decide) ?_
      refine gz_callV K hex (c_X10_fails K.2.2.2.2.2 K.2.2.1 hp) cf_X10_fails zq5_149 (by decide) (ce_43 _ _ _ _ _ _) rfl dX10_conjugate_23 rfl rfl (Nat.le_of_ble_eq_true rfl) ⟨Nat.le_of_ble_eq_true rfl, Nat.le_of_ble_eq_true rfl⟩ ⟨Nat.le_of_ble_eq_true rfl, Nat.le_of_ble_eq_true rfl⟩ (Nat.le_of_ble_eq_true rfl) (Nat.le_of_ble_eq_true rfl) (fun _ _ h => h.elim) (fun r23 τ23 hp => ?_)
      refine gz_norm (st' := [.int r23]) (cells' := 0) (slots' := 0) rfl rfl rfl ?_
      exact gz_iret K hr hp dX10_conjugate_26 (Nat.le_of_ble_eq_true rfl) (Nat.le_of_ble_eq_true rfl)
    · have hp := hp.2 h
      refine gz_iload_n K dX10_conjugate_14 3 rfl ?_
      refine gz_callS K hex (c_X10_isSlot K.2.2.2.2.2 K.2.2.1 hp) cf_X10_isSlot zq5_189 dX10_conjugate_15 rfl rfl (Nat.le_of_ble_eq_true rfl) ⟨Nat.le_of_ble_eq_true rfl, Nat.le_of_ble_eq_true rfl⟩ ⟨Nat.le_of_ble_eq_true rfl, Nat.le_of_ble_eq_true rfl⟩ (Nat.le_of_ble_eq_true rfl) (Nat.le_of_ble_eq_true rfl) (fun _ _ h => h.elim) (fun r15 τ hp => ?_)
      obtain ⟨rfl, hp⟩ := hp
      refine gz_norm (st' := [.int r15]) (cells' := 0) (slots' := 0) rfl rfl rfl ?_
      refine gz_if_ne K 27 dX10_conjugate_18 (by decide) (fun h => ?_) (fun h => ?_)
      · have hp := hp.1 h
        refine gz_aload_n K dX10_conjugate_27 0 rfl ?_
        refine gz_callV K hex (c_X10_clears K.2.2.2.2.2 K.2.2.1 hp) cf_X10_clears zq5_192 (by decide) (ce_43 _ _ _ _ _ _) rfl dX10_conjugate_28 rfl rfl (Nat.le_of_ble_eq_true rfl) ⟨Nat.le_of_ble_eq_true rfl, Nat.le_of_ble_eq_true rfl⟩ ⟨Nat.le_of_ble_eq_true rfl, Nat.le_of_ble_eq_true rfl⟩ (Nat.le_of_ble_eq_true rfl) (Nat.le_of_ble_eq_true rfl) (fun _ _ h => h.elim) (fun _ τ28 hp => ?_)
        refine gz_norm (st' := []) (cells' := 0) (slots' := 0) rfl rfl rfl ?_
        refine gz_aload_n K dX10_conjugate_31 0 rfl ?_
        refine gz_iload_n K dX10_conjugate_32 3 rfl ?_
        refine gz_iconst K (v := (1 : Int32)) dX10_conjugate_33 (by decide) ?_
        refine gz_callV K hex (c_X10_comesWord K.2.2.2.2.2 K.2.2.1 hp) cf_X10_comesWord zq6_2 (by decide) (ce_43 _ _ _ _ _ _) rfl dX10_conjugate_34 rfl rfl (Nat.le_of_ble_eq_true rfl) ⟨Nat.le_of_ble_eq_true rfl, Nat.le_of_ble_eq_true rfl⟩ ⟨Nat.le_of_ble_eq_true rfl, Nat.le_of_ble_eq_true rfl⟩ (Nat.le_of_ble_eq_true rfl) (Nat.le_of_ble_eq_true rfl) (fun _ _ h => h.elim) (fun _ τ34 hp => ?_)
        refine gz_norm (st' := []) (cells' := 0) (slots' := 0) rfl rfl rfl ?_
        refine gz_aload_n K dX10_conjugate_37 0 rfl ?_
        refine gz_iload_n K dX10_conjugate_38 2 rfl ?_
        refine gz_iconst K (v := (0 : Int32)) dX10_conjugate_39 (by decide) ?_
        refine gz_callV K hex (c_X10_comesWord K.2.2.2.2.2 K.2.2.1 hp) cf_X10_comesWord zq6_2 (by decide) (ce_43 _ _ _ _ _ _) rfl dX10_conjugate_40 rfl rfl (Nat.le_of_ble_eq_true rfl) ⟨Nat.le_of_ble_eq_true rfl, Nat.le_of_ble_eq_true rfl⟩ ⟨Nat.le_of_ble_eq_true rfl, Nat.le_of_ble_eq_true rfl⟩ (Nat.le_of_ble_eq_true rfl) (Nat.le_of_ble_eq_true rfl) (fun _ _ h => h.elim) (fun _ τ40 hp => ?_)
        refine gz_norm (st' := []) (cells' := 0) (slots' := 0) rfl rfl rfl ?_
        refine gz_aload_n K dX10_conjugate_43 0 rfl ?_
        refine gz_iload_n K dX10_conjugate_44 3 rfl ?_
        refine gz_iconst K (v := (0 : Int32)) dX10_conjugate_45 (by decide) ?_
        refine gz_callV K hex (c_X10_comesWord K.2.2.2.2.2 K.2.2.1 hp) cf_X10_comesWord zq6_2 (by decide) (ce_43 _ _ _ _ _ _) rfl dX10_conjugate_46 rfl rfl (Nat.le_of_ble_eq_true rfl) ⟨Nat.le_of_ble_eq_true rfl, Nat.le_of_ble_eq_true rfl⟩ ⟨Nat.le_of_ble_eq_true rfl, Nat.le_of_ble_eq_true rfl⟩ (Nat.le_of_ble_eq_true rfl) (Nat.le_of_ble_eq_true rfl) (fun _ _ h => h.elim) (fun _ τ46 hp => ?_)
        refine gz_norm (st' := []) (cells' := 0) (slots' := 0) rfl rfl rfl ?_
        refine gz_aload_n K dX10_conjugate_49 0 rfl ?_
        refine gz_get K (v := .int (gz_i τ46 43 23)) (by decide) (ce_43 _ _ _ _ _ _) rfl inz_X10 23 (by decide) zq5_54 rfl dX10_conjugate_50 ?_
        refine gz_if_eq K 64 dX10_conjugate_53 (by decide) (fun h => ?_) (fun h => ?_)
        · have hp := hp.1 h
          refine gz_aload_n K dX10_conjugate_64 0 rfl ?_
          refine gz_iload_n K dX10_conjugate_65 1 rfl ?_
          refine gz_callV K hex (c_X10_keeps K.2.2.2.2.2 K.2.2.1 hp) cf_X10_keeps zq5_218 (by decide) (ce_43 _ _ _ _ _ _) rfl dX10_conjugate_66 rfl rfl (Nat.le_of_ble_eq_true rfl) ⟨Nat.le_of_ble_eq_true rfl, Nat.le_of_ble_eq_true rfl⟩ ⟨Nat.le_of_ble_eq_true rfl, Nat.le_of_ble_eq_true rfl⟩ (Nat.le_of_ble_eq_true rfl) (Nat.le_of_ble_eq_true rfl) (fun _ _ h => h.elim) (fun r66 τ66 hp => ?_)
          refine gz_norm (st' := [.int r66]) (cells' := 0) (slots' := 0) rfl rfl rfl ?_
          exact gz_iret K hr hp dX10_conjugate_69 (Nat.le_of_ble_eq_true rfl) (Nat.le_of_ble_eq_true rfl)
        · have hp := hp.2 h
          refine gz_aload_n K dX10_conjugate_56 0 rfl ?_
          refine gz_iconst K (v := (2 : Int32)) dX10_conjugate_57 (by decide) ?_
          refine gz_callV K hex (c_X10_fails K.2.2.2.2.2 K.2.2.1 hp) cf_X10_fails zq5_149 (by decide) (ce_43 _ _ _ _ _ _) rfl dX10_conjugate_58 rfl rfl (Nat.le_of_ble_eq_true rfl) ⟨Nat.le_of_ble_eq_true rfl, Nat.le_of_ble_eq_true rfl⟩ ⟨Nat.le_of_ble_eq_true rfl, Nat.le_of_ble_eq_true rfl⟩ (Nat.le_of_ble_eq_true rfl) (Nat.le_of_ble_eq_true rfl) (fun _ _ h => h.elim) (fun r58 τ58 hp => ?_)
          refine gz_norm (st' := [.int r58]) (cells' := 0) (slots' := 0) rfl rfl rfl ?_
          refine gz_goto K 69 dX10_conjugate_61 (by decide) ?_
          exact gz_iret K hr hp dX10_conjugate_69 (Nat.le_of_ble_eq_true rfl) (Nat.le_of_ble_eq_true rfl)
      · have hp := hp.2 h
        refine gz_aload_n K dX10_conjugate_21 0 rfl ?_
        refine gz_iconst K (v := (1 : Int32)) dX10_conjugate_22 (by decide) ?_
        refine gz_callV K hex (c_X10_fails K.2.2.2.2.2 K.2.2.1 hp) cf_X10_fails zq5_149 (by decide) (ce_43 _ _ _ _ _ _) rfl dX10_conjugate_23 rfl rfl (Nat.le_of_ble_eq_true rfl) ⟨Nat.le_of_ble_eq_true rfl, Nat.le_of_ble_eq_true rfl⟩ ⟨Nat.le_of_ble_eq_true rfl, Nat.le_of_ble_eq_true rfl⟩ (Nat.le_of_ble_eq_true rfl) (Nat.le_of_ble_eq_true rfl) (fun _ _ h => h.elim) (fun r23 τ23 hp => ?_)
        refine gz_norm (st' := [.int r23]) (cells' := 0) (slots' := 0) rfl rfl rfl ?_
        exact gz_iret K hr hp dX10_conjugate_26 (Nat.le_of_ble_eq_true rfl) (Nat.le_of_ble_eq_true rfl)
set_option maxRecDepth 100000 in
set_option maxHeartbeats 4000000 in
theorem c_X10_commutator {l : Launch} {D : va_G} {ad : Nat → Nat} {ty : Nat → ClassId} (hl : l.stackTraces = false) (hj : ∀ i j, i < 68 → j < 68 → ad i = ad j → i = j) {σ : Dz} {x1 : Int32} {x2 : Int32} {x3 : Int32} {post : Int32 → Dz → Prop} (hp : P_X10_commutator σ x1 x2 x3 post) : Mz l D ad ty yX10_commutator cX10_commutator 4 (some .int) r_X10_commutator nI0 σ [.ref (ad 43), .int x1, .int x2, .int x3] post (fun _ _ => False) := by
  refine mz_of (by decide) hl hj (Nat.le_of_ble_eq_true rfl) ?_
  intro p e s m args below meth c K hex hr
  unfold P_X10_commutator at hp
  show Gz p l e r_X10_commutator s m args below meth c D ad ty 4 0 0 (Ez below D ad ty nI0 post (fun _ _ => False) args s 0 0) σ 0 [(0, .ref (ad 43)), (1, .int x1), (2, .int x2), (3, .int x3)] []
  refine gz_iload_n K dX10_commutator_0 1 rfl ?_
  refine gz_callS K hex (c_X10_isSlot K.2.2.2.2.2 K.2.2.1 hp) cf_X10_isSlot zq5_189 dX10_commutator_1 rfl rfl (Nat.le_of_ble_eq_true rfl) ⟨Nat.le_of_ble_eq_true rfl, Nat.le_of_ble_eq_true rfl⟩ ⟨Nat.le_of_ble_eq_true rfl, Nat.le_of_ble_eq_true rfl⟩ (Nat.le_of_ble_eq_true rfl) (Nat.le_of_ble_eq_true rfl) (fun _ _ h => h.elim) (fun r1 τ hp => ?_)
  obtain ⟨rfl, hp⟩ := hp
  refine gz_norm (st' := [.int r1]) (cells' := 0) (slots' := 0) rfl rfl rfl ?_
  refine gz_if_eq K 21 dX10_commutator_4 (by decide) (fun h => ?_) (fun h => ?_)
  · have hp := hp.1 h
    refine gz_aload_n K dX10_commutator_21 0 rfl ?_
    refine gz_iconst K (v := (1 : Int32)) dX10_commutator_22 (by decide) ?_
    refine gz_callV K hex (c_X10_fails K.2.2.2.2.2 K.2.2.1 hp) cf_X10_fails zq5_149 (by decide) (ce_43 _ _ _ _ _ _) rfl dX10_commutator_23 rfl rfl (Nat.le_of_ble_eq_true rfl) ⟨Nat.le_of_ble_eq_true rfl, Nat.le_of_ble_eq_true rfl⟩ ⟨Nat.le_of_ble_eq_true rfl, Nat.le_of_ble_eq_true rfl⟩ (Nat.le_of_ble_eq_true rfl) (Nat.le_of_ble_eq_true rfl) (fun _ _ h => h.elim) (fun r23 τ23 hp => ?_)
    refine gz_norm (st' := [.int r23]) (cells' := 0) (slots' := 0) rfl rfl rfl ?_
    exact gz_iret K hr hp dX10_commutator_26 (Nat.le_of_ble_eq_true rfl) (Nat.le_of_ble_eq_true rfl)
  · have hp := hp.2 h
    refine gz_iload_n K dX10_commutator_7 2 rfl ?_
    refine gz_callS K hex (c_X10_isSlot K.2.2.2.2.2 K.2.2.1 hp) cf_X10_isSlot zq5_189 dX10_commutator_8 rfl rfl (Nat.le_of_ble_eq_true rfl) ⟨Nat.le_of_ble_eq_true rfl, Nat.le_of_ble_eq_true rfl⟩ ⟨Nat.le_of_ble_eq_true rfl, Nat.le_of_ble_eq_true rfl⟩ (Nat.le_of_ble_eq_true rfl) (Nat.le_of_ble_eq_true rfl) (fun _ _ h => h.elim) (fun r8 τ hp => ?_)
    obtain ⟨rfl, hp⟩ := hp
    refine gz_norm (st' := [.int r8]) (cells' := 0) (slots' := 0) rfl rfl rfl ?_
    refine gz_if_eq K 21 dX10_commutator_11 (by decide) (fun h => ?_) (fun h => ?_)
    · have hp := hp.1 h
      refine gz_aload_n K dX10_commutator_21 0 rfl ?_
      refine gz_iconst K (v := (1 : Int32)) dX10_commutator_22 (by decide) ?_
      refine gz_callV K hex (c_X10_fails K.2.2.2.2.2 K.2.2.1 hp) cf_X10_fails zq5_149 (by decide) (ce_43 _ _ _ _ _ _) rfl dX10_commutator_23 rfl rfl (Nat.le_of_ble_eq_true rfl) ⟨Nat.le_of_ble_eq_true rfl, Nat.le_of_ble_eq_true rfl⟩ ⟨Nat.le_of_ble_eq_true rfl, Nat.le_of_ble_eq_true rfl⟩ (Nat.le_of_ble_eq_true rfl) (Nat.le_of_ble_eq_true rfl) (fun _ _ h => h.elim) (fun r23 τ23 hp => ?_)
      refine gz_norm (st' := [.int r23]) (cells' := 0) (slots' := 0) rfl rfl rfl ?_
      exact gz_iret K hr hp dX10_commutator_26 (Nat.le_of_ble_eq_true rfl) (Nat.le_of_ble_eq_true rfl)
    · have hp := hp.2 h
      refine gz_iload_n K dX10_commutator_14 3 rfl ?_
      refine gz_callS K hex (c_X10_isSlot K.2.2.2.2.2 K.2.2.1 hp) cf_X10_isSlot zq5_189 dX10_commutator_15 rfl rfl (Nat.le_of_ble_eq_true rfl) ⟨Nat.le_of_ble_eq_true rfl, Nat.le_of_ble_eq_true rfl⟩ ⟨Nat.le_of_ble_eq_true rfl, Nat.le_of_ble_eq_true rfl⟩ (Nat.le_of_ble_eq_true rfl) (Nat.le_of_ble_eq_true rfl) (fun _ _ h => h.elim) (fun r15 τ hp => ?_)
      obtain ⟨rfl, hp⟩ := hp
      refine gz_norm (st' := [.int r15]) (cells' := 0) (slots' := 0) rfl rfl rfl ?_
      refine gz_if_ne K 27 dX10_commutator_18 (by decide) (fun h => ?_) (fun h => ?_)
      · have hp := hp.1 h
        refine gz_aload_n K dX10_commutator_27 0 rfl ?_
        refine gz_callV K hex (c_X10_clears K.2.2.2.2.2 K.2.2.1 hp) cf_X10_clears zq5_192 (by decide) (ce_43 _ _ _ _ _ _) rfl dX10_commutator_28 rfl rfl (Nat.le_of_ble_eq_true rfl) ⟨Nat.le_of_ble_eq_true rfl, Nat.le_of_ble_eq_true rfl⟩ ⟨Nat.le_of_ble_eq_true rfl, Nat.le_of_ble_eq_true rfl⟩ (Nat.le_of_ble_eq_true rfl) (Nat.le_of_ble_eq_true rfl) (fun _ _ h => h.elim) (fun _ τ28 hp => ?_)
        refine gz_norm (st' := []) (cells' := 0) (slots' := 0) rfl rfl rfl ?_
        refine gz_aload_n K dX10_commutator_31 0 rfl ?_
        refine gz_iload_n K dX10_commutator_32 2 rfl ?_
        refine gz_iconst K (v := (0 : Int32)) dX10_commutator_33 (by decide) ?_
        refine gz_callV K hex (c_X10_comesWord K.2.2.2.2.2 K.2.2.1 hp) cf_X10_comesWord zq6_2 (by decide) (ce_43 _ _ _ _ _ _) rfl dX10_commutator_34 rfl rfl (Nat.le_of_ble_eq_true rfl) ⟨Nat.le_of_ble_eq_true rfl, Nat.le_of_ble_eq_true rfl⟩ ⟨Nat.le_of_ble_eq_true rfl, Nat.le_of_ble_eq_true rfl⟩ (Nat.le_of_ble_eq_true rfl) (Nat.le_of_ble_eq_true rfl) (fun _ _ h => h.elim) (fun _ τ34 hp => ?_)
        refine gz_norm (st' := []) (cells' := 0) (slots' := 0) rfl rfl rfl ?_
        refine gz_aload_n K dX10_commutator_37 0 rfl ?_
        refine gz_iload_n K dX10_commutator_38 3 rfl ?_
        refine gz_iconst K (v := (0 : Int32)) dX10_commutator_39 (by decide) ?_
        refine gz_callV K hex (c_X10_comesWord K.2.2.2.2.2 K.2.2.1 hp) cf_X10_comesWord zq6_2 (by decide) (ce_43 _ _ _ _ _ _) rfl dX10_commutator_40 rfl rfl (Nat.le_of_ble_eq_true rfl) ⟨Nat.le_of_ble_eq_true rfl, Nat.le_of_ble_eq_true rfl⟩ ⟨Nat.le_of_ble_eq_true rfl, Nat.le_of_ble_eq_true rfl⟩ (Nat.le_of_ble_eq_true rfl) (Nat.le_of_ble_eq_true rfl) (fun _ _ h => h.elim) (fun _ τ40 hp => ?_)
        refine gz_norm (st' := []) (cells' := 0) (slots' := 0) rfl rfl rfl ?_
        refine gz_aload_n K dX10_commutator_43 0 rfl ?_
        refine gz_iload_n K dX10_commutator_44 2 rfl ?_
        refine gz_iconst K (v := (1 : Int32)) dX10_commutator_45 (by decide) ?_
        refine gz_callV K hex (c_X10_comesWord K.2.2.2.2.2 K.2.2.1 hp) cf_X10_comesWord zq6_2 (by decide) (ce_43 _ _ _ _ _ _) rfl dX10_commutator_46 rfl rfl (Nat.le_of_ble_eq_true rfl) ⟨Nat.le_of_ble_eq_true rfl, Nat.le_of_ble_eq_true rfl⟩ ⟨Nat.le_of_ble_eq_true rfl, Nat.le_of_ble_eq_true rfl⟩ (Nat.le_of_ble_eq_true rfl) (Nat.le_of_ble_eq_true rfl) (fun _ _ h => h.elim) (fun _ τ46 hp => ?_)
        refine gz_norm (st' := []) (cells' := 0) (slots' := 0) rfl rfl rfl ?_
        refine gz_aload_n K dX10_commutator_49 0 rfl ?_
        refine gz_iload_n K dX10_commutator_50 3 rfl ?_
        refine gz_iconst K (v := (1 : Int32)) dX10_commutator_51 (by decide) ?_
        refine gz_callV K hex (c_X10_comesWord K.2.2.2.2.2 K.2.2.1 hp) cf_X10_comesWord zq6_2 (by decide) (ce_43 _ _ _ _ _ _) rfl dX10_commutator_52 rfl rfl (Nat.le_of_ble_eq_true rfl) ⟨Nat.le_of_ble_eq_true rfl, Nat.le_of_ble_eq_true rfl⟩ ⟨Nat.le_of_ble_eq_true rfl, Nat.le_of_ble_eq_true rfl⟩ (Nat.le_of_ble_eq_true rfl) (Nat.le_of_ble_eq_true rfl) (fun _ _ h => h.elim) (fun _ τ52 hp => ?_)
        refine gz_norm (st' := []) (cells' := 0) (slots' := 0) rfl rfl rfl ?_
        refine gz_aload_n K dX10_commutator_55 0 rfl ?_
        refine gz_get K (v := .int (gz_i τ52 43 23)) (by decide) (ce_43 _ _ _ _ _ _) rfl inz_X10 23 (by decide) zq5_54 rfl dX10_commutator_56 ?_
        refine gz_if_eq K 70 dX10_commutator_59 (by decide) (fun h => ?_) (fun h => ?_)
        · have hp := hp.1 h
          refine gz_aload_n K dX10_commutator_70 0 rfl ?_
          refine gz_iload_n K dX10_commutator_71 1 rfl ?_
          refine gz_callV K hex (c_X10_keeps K.2.2.2.2.2 K.2.2.1 hp) cf_X10_keeps zq5_218 (by decide) (ce_43 _ _ _ _ _ _) rfl dX10_commutator_72 rfl rfl (Nat.le_of_ble_eq_true rfl) ⟨Nat.le_of_ble_eq_true rfl, Nat.le_of_ble_eq_true rfl⟩ ⟨Nat.le_of_ble_eq_true rfl, Nat.le_of_ble_eq_true rfl⟩ (Nat.le_of_ble_eq_true rfl) (Nat.le_of_ble_eq_true rfl) (fun _ _ h => h.elim) (fun r72 τ72 hp => ?_)
          refine gz_norm (st' := [.int r72]) (cells' := 0) (slots' := 0) rfl rfl rfl ?_
          exact gz_iret K hr hp dX10_commutator_75 (Nat.le_of_ble_eq_true rfl) (Nat.le_of_ble_eq_true rfl)
        · have hp := hp.2 h
          refine gz_aload_n K dX10_commutator_62 0 rfl ?_
          refine gz_iconst K (v := (2 : Int32)) dX10_commutator_63 (by decide) ?_
          refine gz_callV K hex (c_X10_fails K.2.2.2.2.2 K.2.2.1 hp) cf_X10_fails zq5_149 (by decide) (ce_43 _ _ _ _ _ _) rfl dX10_commutator_64 rfl rfl (Nat.le_of_ble_eq_true rfl) ⟨Nat.le_of_ble_eq_true rfl, Nat.le_of_ble_eq_true rfl⟩ ⟨Nat.le_of_ble_eq_true rfl, Nat.le_of_ble_eq_true rfl⟩ (Nat.le_of_ble_eq_true rfl) (Nat.le_of_ble_eq_true rfl) (fun _ _ h => h.elim) (fun r64 τ64 hp => ?_)
          refine gz_norm (st' := [.int r64]) (cells' := 0) (slots' := 0) rfl rfl rfl ?_
          refine gz_goto K 75 dX10_commutator_67 (by decide) ?_
          exact gz_iret K hr hp dX10_commutator_75 (Nat.le_of_ble_eq_true rfl) (Nat.le_of_ble_eq_true rfl)
      · have hp := hp.2 h
        refine gz_aload_n K dX10_commutator_21 0 rfl ?_
        refine gz_iconst K (v := (1 : Int32)) dX10_commutator_22 (by decide) ?_
        refine gz_callV K hex (c_X10_fails K.2.2.2.2.2 K.2.2.1 hp) cf_X10_fails zq5_149 (by decide) (ce_43 _ _ _ _ _ _) rfl dX10_commutator_23 rfl rfl (Nat.le_of_ble_eq_true rfl) ⟨Nat.le_of_ble_eq_true rfl, Nat.le_of_ble_eq_true rfl⟩ ⟨Nat.le_of_ble_eq_true rfl, Nat.le_of_ble_eq_true rfl⟩ (Nat.le_of_ble_eq_true rfl) (Nat.le_of_ble_eq_true rfl) (fun _ _ h => h.elim) (fun r23 τ23 hp => ?_)
        refine gz_norm (st' := [.int r23]) (cells' := 0) (slots' := 0) rfl rfl rfl ?_
        exact gz_iret K hr hp dX10_commutator_26 (Nat.le_of_ble_eq_true rfl) (Nat.le_of_ble_eq_true rfl)
set_option maxRecDepth 100000 in
set_option maxHeartbeats 4000000 in
theorem c_X10_ledBy {l : Launch} {D : va_G} {ad : Nat → Nat} {ty : Nat → ClassId} (hl : l.stackTraces = false) (hj : ∀ i j, i < 68 → j < 68 → ad i = ad j → i = j) {σ : Dz} {x1 : Int32} {x2 : Int32} {post : Int32 → Prop} (hp : P_X10_ledBy σ x1 x2 post) : Mz l D ad ty yX10_ledBy cX10_ledBy 5 (some .int) r_X10_ledBy nI0 σ [.ref (ad 43), .int x1, .int x2] (fun r τ => σ = τ ∧ post r) (fun _ _ => False) := by
  refine mz_of (by decide) hl hj (Nat.le_of_ble_eq_true rfl) ?_
  intro p e s m args below meth c K hex hr
  unfold P_X10_ledBy at hp
  show Gz p l e r_X10_ledBy s m args below meth c D ad ty 5 0 0 (Ez below D ad ty nI0 (fun r τ => σ = τ ∧ post r) (fun _ _ => False) args s 0 0) σ 0 [(0, .ref (ad 43)), (1, .int x1), (2, .int x2)] []
  refine gz_iload_n K dX10_ledBy_0 2 rfl ?_
  refine gz_istore_n K [(3, .int x2), (0, .ref (ad 43)), (1, .int x1), (2, .int x2)] dX10_ledBy_1 (by decide) rfl ?_
  refine gz_iconst K (v := (0 : Int32)) dX10_ledBy_2 (by decide) ?_
  refine gz_istore K [(4, .int (0 : Int32)), (3, .int x2), (0, .ref (ad 43)), (1, .int x1), (2, .int x2)] dX10_ledBy_3 (by decide) rfl ?_
  refine gz_sub [2, 3, 1, 0] rfl ?_
  have ll_5 : ∀ (n_5 : Nat) (y1 : Int32) (y3 : Int32) (y4 : Int32) , L_X10_ledBy_5 σ post  n_5 y1 y3 y4 → Gz p l e r_X10_ledBy s m args below meth c D ad ty 5 0 0 (Ez below D ad ty nI0 (fun r τ => σ = τ ∧ post r) (fun _ _ => False) args s 0 0) σ 5 [(0, .ref (ad 43)), (1, .int y1), (3, .int y3), (4, .int y4)] [] := by
    intro n_5; induction n_5 with
    | zero => intro y1 y3 y4 hp; exact False.elim hp
    | succ n_5 ih_5 =>
      intro y1 y3 y4 hp
      have hp : B_X10_ledBy_5 σ post  (L_X10_ledBy_5 σ post  n_5) y1 y3 y4 := hp
      unfold B_X10_ledBy_5 at hp
      refine gz_iload K dX10_ledBy_5 3 rfl ?_
      refine gz_aload_n K dX10_ledBy_7 0 rfl ?_
      refine gz_get K (v := .ref (ad 47)) (by decide) (ce_43 _ _ _ _ _ _) rfl inz_X10 5 (by decide) zq5_36 rfl dX10_ledBy_8 ?_
      refine gz_iload_n K dX10_ledBy_11 1 rfl ?_
      obtain ⟨h, hp⟩ := hp
      refine gz_iald K (by decide) (ce_47 _ _ _ _ _ _) h dX10_ledBy_12 ?_
      refine gz_icmp_ge K 46 dX10_ledBy_13 (by decide) (fun h => ?_) (fun h => ?_)
      · have hp := hp.1 h
        refine gz_iload_n K dX10_ledBy_46 2 rfl ?_
        exact gz_iret K hr ⟨rfl, hp⟩ dX10_ledBy_47 (Nat.le_of_ble_eq_true rfl) (Nat.le_of_ble_eq_true rfl)
      · have hp := hp.2 h
        refine gz_aload_n K dX10_ledBy_16 0 rfl ?_
        refine gz_get K (v := .ref (ad 46)) (by decide) (ce_43 _ _ _ _ _ _) rfl inz_X10 4 (by decide) zq5_35 rfl dX10_ledBy_17 ?_
        refine gz_bipush K (v := (8 : Int32)) dX10_ledBy_20 (by decide) ?_
        refine gz_aload_n K dX10_ledBy_22 0 rfl ?_
        refine gz_get K (v := .ref (ad 48)) (by decide) (ce_43 _ _ _ _ _ _) rfl inz_X10 6 (by decide) zq5_37 rfl dX10_ledBy_23 ?_
        refine gz_sipush K (v := (200 : Int32)) dX10_ledBy_26 (by decide) ?_
        refine gz_iload_n K dX10_ledBy_29 1 rfl ?_
        refine gz_imul K dX10_ledBy_30 ?_
        refine gz_iload K dX10_ledBy_31 3 rfl ?_
        refine gz_iadd K dX10_ledBy_33 ?_
        obtain ⟨h, hp⟩ := hp
        refine gz_iald K (by decide) (ce_48 _ _ _ _ _ _) h dX10_ledBy_34 ?_
        refine gz_imul K dX10_ledBy_35 ?_
        refine gz_iload_n K dX10_ledBy_36 2 rfl ?_
        refine gz_iadd K dX10_ledBy_37 ?_
        obtain ⟨h, hp⟩ := hp
        refine gz_iald K (by decide) (ce_46 _ _ _ _ _ _) h dX10_ledBy_38 ?_
        refine gz_istore_n K [(3, .int (gz_i σ 46 ((((8 : Int32) * (gz_i σ 48 ((((200 : Int32) * y1) + y4)).toNatClampNeg)) + y3)).toNatClampNeg)), (0, .ref (ad 43)), (1, .int y1), (4, .int y4)] dX10_ledBy_39 (by decide) rfl ?_
        refine gz_iinc K (v := (y4 + 1)) [(4, .int (y4 + 1)), (3, .int (gz_i σ 46 ((((8 : Int32) * (gz_i σ 48 ((((200 : Int32) * y1) + y4)).toNatClampNeg)) + y3)).toNatClampNeg)), (0, .ref (ad 43)), (1, .int y1)] dX10_ledBy_40 3 rfl (by first | rfl | decide) (by decide) rfl ?_
        refine gz_goto K 5 dX10_ledBy_43 (by decide) ?_
        refine gz_sub [2, 3, 1, 0] rfl ?_
        exact ih_5 y1 (gz_i σ 46 ((((8 : Int32) * (gz_i σ 48 ((((200 : Int32) * y1) + y4)).toNatClampNeg)) + y3)).toNatClampNeg) (y4 + 1)  hp
  obtain ⟨n, hp⟩ := hp
  exact ll_5 n x1 x2 (0 : Int32)  hp
set_option maxRecDepth 100000 in
set_option maxHeartbeats 4000000 in
theorem c_X10_cycleOf {l : Launch} {D : va_G} {ad : Nat → Nat} {ty : Nat → ClassId} (hl : l.stackTraces = false) (hj : ∀ i j, i < 68 → j < 68 → ad i = ad j → i = j) {σ : Dz} {x1 : Int32} {x2 : Int32} {post : Int32 → Prop} (hp : P_X10_cycleOf σ x1 x2 post) : Mz l D ad ty yX10_cycleOf cX10_cycleOf 5 (some .int) r_X10_cycleOf nI0 σ [.ref (ad 43), .int x1, .int x2] (fun r τ => σ = τ ∧ post r) (fun _ _ => False) := by
  refine mz_of (by decide) hl hj (Nat.le_of_ble_eq_true rfl) ?_
  intro p e s m args below meth c K hex hr
  unfold P_X10_cycleOf at hp
  show Gz p l e r_X10_cycleOf s m args below meth c D ad ty 5 0 0 (Ez below D ad ty nI0 (fun r τ => σ = τ ∧ post r) (fun _ _ => False) args s 0 0) σ 0 [(0, .ref (ad 43)), (1, .int x1), (2, .int x2)] []
  refine gz_iconst K (v := (1 : Int32)) dX10_cycleOf_0 (by decide) ?_
  refine gz_istore_n K [(3, .int (1 : Int32)), (0, .ref (ad 43)), (1, .int x1), (2, .int x2)] dX10_cycleOf_1 (by decide) rfl ?_
  refine gz_aload_n K dX10_cycleOf_2 1 rfl ?_
  refine gz_iload_n K dX10_cycleOf_3 2 rfl ?_
  refine gz_iload_n K dX10_cycleOf_4 3 rfl ?_
  refine gz_callV K hex (c_X10_ledBy K.2.2.2.2.2 K.2.2.1 hp) cf_X10_ledBy zq6_22 (by decide) (ce_43 _ _ _ _ _ _) rfl dX10_cycleOf_5 rfl rfl (Nat.le_of_ble_eq_true rfl) ⟨Nat.le_of_ble_eq_true rfl, Nat.le_of_ble_eq_true rfl⟩ ⟨Nat.le_of_ble_eq_true rfl, Nat.le_of_ble_eq_true rfl⟩ (Nat.le_of_ble_eq_true rfl) (Nat.le_of_ble_eq_true rfl) (fun _ _ h => h.elim) (fun r5 τ hp => ?_)
  obtain ⟨rfl, hp⟩ := hp
  refine gz_norm (st' := [.int r5]) (cells' := 0) (slots' := 0) rfl rfl rfl ?_
  refine gz_istore K [(4, .int r5), (3, .int (1 : Int32)), (0, .ref (ad 43)), (1, .int x1), (2, .int x2)] dX10_cycleOf_8 (by decide) rfl ?_
  refine gz_sub [2, 3, 4, 1, 0] rfl ?_
  have ll_10 : ∀ (n_10 : Nat) (y1 : Int32) (y2 : Int32) (y3 : Int32) (y4 : Int32) , L_X10_cycleOf_10 σ post  n_10 y1 y2 y3 y4 → Gz p l e r_X10_cycleOf s m args below meth c D ad ty 5 0 0 (Ez below D ad ty nI0 (fun r τ => σ = τ ∧ post r) (fun _ _ => False) args s 0 0) σ 10 [(0, .ref (ad 43)), (1, .int y1), (2, .int y2), (3, .int y3), (4, .int y4)] [] := by
    intro n_10; induction n_10 with
    | zero => intro y1 y2 y3 y4 hp; exact False.elim hp
    | succ n_10 ih_10 =>
      intro y1 y2 y3 y4 hp
      have hp : B_X10_cycleOf_10 σ post  (L_X10_cycleOf_10 σ post  n_10) y1 y2 y3 y4 := hp
      unfold B_X10_cycleOf_10 at hp
      refine gz_iload K dX10_cycleOf_10 4 rfl ?_
      refine gz_iload_n K dX10_cycleOf_12 2 rfl ?_
      refine gz_icmp_eq K 31 dX10_cycleOf_13 (by decide) (fun h => ?_) (fun h => ?_)
      · have hp := hp.1 h
        refine gz_iload_n K dX10_cycleOf_31 3 rfl ?_
        exact gz_iret K hr ⟨rfl, hp⟩ dX10_cycleOf_32 (Nat.le_of_ble_eq_true rfl) (Nat.le_of_ble_eq_true rfl)
      · have hp := hp.2 h
        refine gz_iinc K (v := (y3 + 1)) [(3, .int (y3 + 1)), (0, .ref (ad 43)), (1, .int y1), (2, .int y2), (4, .int y4)] dX10_cycleOf_16 3 rfl (by first | rfl | decide) (by decide) rfl ?_
        refine gz_aload_n K dX10_cycleOf_19 1 rfl ?_
        refine gz_iload_n K dX10_cycleOf_20 2 rfl ?_
        refine gz_iload K dX10_cycleOf_21 4 rfl ?_
        refine gz_callV K hex (c_X10_ledBy K.2.2.2.2.2 K.2.2.1 hp) cf_X10_ledBy zq6_22 (by decide) (ce_43 _ _ _ _ _ _) rfl dX10_cycleOf_23 rfl rfl (Nat.le_of_ble_eq_true rfl) ⟨Nat.le_of_ble_eq_true rfl, Nat.le_of_ble_eq_true rfl⟩ ⟨Nat.le_of_ble_eq_true rfl, Nat.le_of_ble_eq_true rfl⟩ (Nat.le_of_ble_eq_true rfl) (Nat.le_of_ble_eq_true rfl) (fun _ _ h => h.elim) (fun r23 τ hp => ?_)
        obtain ⟨rfl, hp⟩ := hp
        refine gz_norm (st' := [.int r23]) (cells' := 0) (slots' := 0) rfl rfl rfl ?_
        refine gz_istore K [(4, .int r23), (3, .int (y3 + 1)), (0, .ref (ad 43)), (1, .int y1), (2, .int y2)] dX10_cycleOf_26 (by decide) rfl ?_
        refine gz_goto K 10 dX10_cycleOf_28 (by decide) ?_
        refine gz_sub [2, 3, 4, 1, 0] rfl ?_
        exact ih_10 y1 y2 (y3 + 1) r23  hp
  obtain ⟨n, hp⟩ := hp
  exact ll_10 n x1 x2 (1 : Int32) r5  hp
set_option maxRecDepth 100000 in
set_option maxHeartbeats 4000000 in
theorem c_X10_order {l : Launch} {D : va_G} {ad : Nat → Nat} {ty : Nat → ClassId} (hl : l.stackTraces = false) (hj : ∀ i j, i < 68 → j < 68 → ad i = ad j → i = j) {σ : Dz} {x1 : Int32} {post : Int32 → Dz → Prop} (hp : P_X10_order σ x1 post) : Mz l D ad ty yX10_order cX10_order 5 (some .int) r_X10_order nI0 σ [.ref (ad 43), .int x1] post (fun _ _ => False) := by
  refine mz_of (by decide) hl hj (Nat.le_of_ble_eq_true rfl) ?_
  intro p e s m args below meth c K hex hr
  unfold P_X10_order at hp
  show Gz p l e r_X10_order s m args below meth c D ad ty 5 0 0 (Ez below D ad ty nI0 post (fun _ _ => False) args s 0 0) σ 0 [(0, .ref (ad 43)), (1, .int x1)] []
  refine gz_iload_n K dX10_order_0 1 rfl ?_
  refine gz_callS K hex (c_X10_isSlot K.2.2.2.2.2 K.2.2.1 hp) cf_X10_isSlot zq5_189 dX10_order_1 rfl rfl (Nat.le_of_ble_eq_true rfl) ⟨Nat.le_of_ble_eq_true rfl, Nat.le_of_ble_eq_true rfl⟩ ⟨Nat.le_of_ble_eq_true rfl, Nat.le_of_ble_eq_true rfl⟩ (Nat.le_of_ble_eq_true rfl) (Nat.le_of_ble_eq_true rfl) (fun _ _ h => h.elim) (fun r1 τ hp => ?_)
  obtain ⟨rfl, hp⟩ := hp
  refine gz_norm (st' := [.int r1]) (cells' := 0) (slots' := 0) rfl rfl rfl ?_
  refine gz_if_ne K 13 dX10_order_4 (by decide) (fun h => ?_) (fun h => ?_)
  · have hp := hp.1 h
    refine gz_iconst K (v := (1 : Int32)) dX10_order_13 (by decide) ?_
    refine gz_istore_n K [(2, .int (1 : Int32)), (0, .ref (ad 43)), (1, .int x1)] dX10_order_14 (by decide) rfl ?_
    refine gz_iconst K (v := (0 : Int32)) dX10_order_15 (by decide) ?_
    refine gz_istore_n K [(3, .int (0 : Int32)), (2, .int (1 : Int32)), (0, .ref (ad 43)), (1, .int x1)] dX10_order_16 (by decide) rfl ?_
    refine gz_sub [2, 3, 1, 0] rfl ?_
    have ll_17 : ∀ (n_17 : Nat) (σ : Dz) (y1 : Int32) (y2 : Int32) (y3 : Int32) , L_X10_order_17 post  n_17 σ y1 y2 y3 → Gz p l e r_X10_order s m args below meth c D ad ty 5 0 0 (Ez below D ad ty nI0 post (fun _ _ => False) args s 0 0) σ 17 [(0, .ref (ad 43)), (1, .int y1), (2, .int y2), (3, .int y3)] [] := by
      intro n_17; induction n_17 with
      | zero => intro σ y1 y2 y3 hp; exact False.elim hp
      | succ n_17 ih_17 =>
        intro σ y1 y2 y3 hp
        have hp : B_X10_order_17 post  (L_X10_order_17 post  n_17) σ y1 y2 y3 := hp
        unfold B_X10_order_17 at hp
        have bb_73 : ∀ (σ : Dz) (y1 : Int32) (y3 : Int32) (z0 : Int32) (z1 : Int32) , B_X10_order_73 post (L_X10_order_17 post  n_17) σ y1 y3 z0 z1 → Gz p l e r_X10_order s m args below meth c D ad ty 5 0 0 (Ez below D ad ty nI0 post (fun _ _ => False) args s 0 0) σ 73 [(0, .ref (ad 43)), (1, .int y1), (3, .int y3)] [.int z0, .int z1] := by
          intro σ y1 y3 z0 z1 hp
          unfold B_X10_order_73 at hp
          refine gz_iadd K dX10_order_73 ?_
          refine gz_istore_n K [(2, .int (z1 + z0)), (0, .ref (ad 43)), (1, .int y1), (3, .int y3)] dX10_order_74 (by decide) rfl ?_
          refine gz_goto K 17 dX10_order_75 (by decide) ?_
          refine gz_sub [1, 2, 0, 3] rfl ?_
          exact ih_17 σ y1 (z1 + z0) y3  hp
        refine gz_iload_n K dX10_order_17 3 rfl ?_
        refine gz_if_ne K 78 dX10_order_18 (by decide) (fun h => ?_) (fun h => ?_)
        · have hp := hp.1 h
          refine gz_aload_n K dX10_order_78 0 rfl ?_
          refine gz_iload_n K dX10_order_79 2 rfl ?_
          refine gz_callV K hex (c_X10_done K.2.2.2.2.2 K.2.2.1 hp) cf_X10_done zq5_153 (by decide) (ce_43 _ _ _ _ _ _) rfl dX10_order_80 rfl rfl (Nat.le_of_ble_eq_true rfl) ⟨Nat.le_of_ble_eq_true rfl, Nat.le_of_ble_eq_true rfl⟩ ⟨Nat.le_of_ble_eq_true rfl, Nat.le_of_ble_eq_true rfl⟩ (Nat.le_of_ble_eq_true rfl) (Nat.le_of_ble_eq_true rfl) (fun _ _ h => h.elim) (fun r80 τ80 hp => ?_)
          refine gz_norm (st' := [.int r80]) (cells' := 0) (slots' := 0) rfl rfl rfl ?_
          exact gz_iret K hr hp dX10_order_83 (Nat.le_of_ble_eq_true rfl) (Nat.le_of_ble_eq_true rfl)
        · have hp := hp.2 h
          refine gz_iconst K (v := (1 : Int32)) dX10_order_21 (by decide) ?_
          refine gz_istore_n K [(3, .int (1 : Int32)), (0, .ref (ad 43)), (1, .int y1), (2, .int y2)] dX10_order_22 (by decide) rfl ?_
          refine gz_iconst K (v := (1 : Int32)) dX10_order_23 (by decide) ?_
          refine gz_istore K [(4, .int (1 : Int32)), (3, .int (1 : Int32)), (0, .ref (ad 43)), (1, .int y1), (2, .int y2)] dX10_order_24 (by decide) rfl ?_
          refine gz_sub [2, 3, 4, 1, 0] rfl ?_
          have ll_26 : ∀ (n_26 : Nat) (σ : Dz) (y1 : Int32) (y2 : Int32) (y3 : Int32) (y4 : Int32) , L_X10_order_26 post (L_X10_order_17 post  n_17) n_26 σ y1 y2 y3 y4 → Gz p l e r_X10_order s m args below meth c D ad ty 5 0 0 (Ez below D ad ty nI0 post (fun _ _ => False) args s 0 0) σ 26 [(0, .ref (ad 43)), (1, .int y1), (2, .int y2), (3, .int y3), (4, .int y4)] [] := by
            intro n_26; induction n_26 with
            | zero => intro σ y1 y2 y3 y4 hp; exact False.elim hp
            | succ n_26 ih_26 =>
              intro σ y1 y2 y3 y4 hp
              have hp : B_X10_order_26 post (L_X10_order_17 post  n_17) (L_X10_order_26 post (L_X10_order_17 post  n_17) n_26) σ y1 y2 y3 y4 := hp
              unfold B_X10_order_26 at hp
              have bb_56 : ∀ (σ : Dz) (y1 : Int32) (y2 : Int32) (y4 : Int32) (z0 : Int32) , B_X10_order_56 post (L_X10_order_17 post  n_17) (L_X10_order_26 post (L_X10_order_17 post  n_17) n_26) σ y1 y2 y4 z0 → Gz p l e r_X10_order s m args below meth c D ad ty 5 0 0 (Ez below D ad ty nI0 post (fun _ _ => False) args s 0 0) σ 56 [(0, .ref (ad 43)), (1, .int y1), (2, .int y2), (4, .int y4)] [.int z0] := by
                intro σ y1 y2 y4 z0 hp
                unfold B_X10_order_56 at hp
                refine gz_istore_n K [(3, .int z0), (0, .ref (ad 43)), (1, .int y1), (2, .int y2), (4, .int y4)] dX10_order_56 (by decide) rfl ?_
                refine gz_iinc K (v := (y4 + 1)) [(4, .int (y4 + 1)), (3, .int z0), (0, .ref (ad 43)), (1, .int y1), (2, .int y2)] dX10_order_57 4 rfl (by first | rfl | decide) (by decide) rfl ?_
                refine gz_goto K 26 dX10_order_60 (by decide) ?_
                refine gz_sub [2, 3, 4, 1, 0] rfl ?_
                exact ih_26 σ y1 y2 z0 (y4 + 1)  hp
              have bb_55 : ∀ (σ : Dz) (y1 : Int32) (y2 : Int32) (y4 : Int32) , B_X10_order_55 post (L_X10_order_17 post  n_17) (L_X10_order_26 post (L_X10_order_17 post  n_17) n_26) σ y1 y2 y4 → Gz p l e r_X10_order s m args below meth c D ad ty 5 0 0 (Ez below D ad ty nI0 post (fun _ _ => False) args s 0 0) σ 55 [(0, .ref (ad 43)), (1, .int y1), (2, .int y2), (4, .int y4)] [] := by
                intro σ y1 y2 y4 hp
                unfold B_X10_order_55 at hp
                refine gz_iconst K (v := (0 : Int32)) dX10_order_55 (by decide) ?_
                exact bb_56 σ y1 y2 y4 (0 : Int32)  hp
              refine gz_iload K dX10_order_26 4 rfl ?_
              refine gz_aload_n K dX10_order_28 0 rfl ?_
              refine gz_get K (v := .int (gz_i σ 43 1)) (by decide) (ce_43 _ _ _ _ _ _) rfl inz_X10 1 (by decide) zq5_32 rfl dX10_order_29 ?_
              refine gz_icmp_gt K 63 dX10_order_32 (by decide) (fun h => ?_) (fun h => ?_)
              · have hp := hp.1 h
                refine gz_iload_n K dX10_order_63 2 rfl ?_
                refine gz_iload_n K dX10_order_64 3 rfl ?_
                refine gz_if_eq K 72 dX10_order_65 (by decide) (fun h => ?_) (fun h => ?_)
                · have hp := hp.1 h
                  refine gz_iconst K (v := (1 : Int32)) dX10_order_72 (by decide) ?_
                  refine gz_sub [0, 1, 3] rfl ?_
                  exact bb_73 σ y1 y3 (1 : Int32) y2  hp
                · have hp := hp.2 h
                  refine gz_iconst K (v := (0 : Int32)) dX10_order_68 (by decide) ?_
                  refine gz_goto K 73 dX10_order_69 (by decide) ?_
                  refine gz_sub [0, 1, 3] rfl ?_
                  exact bb_73 σ y1 y3 (0 : Int32) y2  hp
              · have hp := hp.2 h
                refine gz_iload_n K dX10_order_35 3 rfl ?_
                refine gz_if_eq K 55 dX10_order_36 (by decide) (fun h => ?_) (fun h => ?_)
                · have hp := hp.1 h
                  refine gz_sub [0, 1, 2, 4] rfl ?_
                  exact bb_55 σ y1 y2 y4  hp
                · have hp := hp.2 h
                  refine gz_iload_n K dX10_order_39 2 rfl ?_
                  refine gz_aload_n K dX10_order_40 0 rfl ?_
                  refine gz_iload_n K dX10_order_41 1 rfl ?_
                  refine gz_iload K dX10_order_42 4 rfl ?_
                  refine gz_callV K hex (c_X10_cycleOf K.2.2.2.2.2 K.2.2.1 hp) cf_X10_cycleOf zq6_18 (by decide) (ce_43 _ _ _ _ _ _) rfl dX10_order_44 rfl rfl (Nat.le_of_ble_eq_true rfl) ⟨Nat.le_of_ble_eq_true rfl, Nat.le_of_ble_eq_true rfl⟩ ⟨Nat.le_of_ble_eq_true rfl, Nat.le_of_ble_eq_true rfl⟩ (Nat.le_of_ble_eq_true rfl) (Nat.le_of_ble_eq_true rfl) (fun _ _ h => h.elim) (fun r44 τ hp => ?_)
                  obtain ⟨rfl, hp⟩ := hp
                  refine gz_norm (st' := [.int r44, .int y2]) (cells' := 0) (slots' := 0) rfl rfl rfl ?_
                  obtain ⟨h, hp⟩ := hp
                  refine gz_irem K dX10_order_47 h ?_
                  refine gz_if_ne K 55 dX10_order_48 (by decide) (fun h => ?_) (fun h => ?_)
                  · have hp := hp.1 h
                    refine gz_sub [0, 1, 2, 4] rfl ?_
                    exact bb_55 σ y1 y2 y4  hp
                  · have hp := hp.2 h
                    refine gz_iconst K (v := (1 : Int32)) dX10_order_51 (by decide) ?_
                    refine gz_goto K 56 dX10_order_52 (by decide) ?_
                    refine gz_sub [0, 1, 2, 4] rfl ?_
                    exact bb_56 σ y1 y2 y4 (1 : Int32)  hp
          obtain ⟨n, hp⟩ := hp
          exact ll_26 n σ y1 y2 (1 : Int32) (1 : Int32)  hp
    obtain ⟨n, hp⟩ := hp
    exact ll_17 n σ x1 (1 : Int32) (0 : Int32)  hp
  · have hp := hp.2 h
    refine gz_aload_n K dX10_order_7 0 rfl ?_
    refine gz_iconst K (v := (1 : Int32)) dX10_order_8 (by decide) ?_
    refine gz_callV K hex (c_X10_fails K.2.2.2.2.2 K.2.2.1 hp) cf_X10_fails zq5_149 (by decide) (ce_43 _ _ _ _ _ _) rfl dX10_order_9 rfl rfl (Nat.le_of_ble_eq_true rfl) ⟨Nat.le_of_ble_eq_true rfl, Nat.le_of_ble_eq_true rfl⟩ ⟨Nat.le_of_ble_eq_true rfl, Nat.le_of_ble_eq_true rfl⟩ (Nat.le_of_ble_eq_true rfl) (Nat.le_of_ble_eq_true rfl) (fun _ _ h => h.elim) (fun r9 τ9 hp => ?_)
    refine gz_norm (st' := [.int r9]) (cells' := 0) (slots' := 0) rfl rfl rfl ?_
    exact gz_iret K hr hp dX10_order_12 (Nat.le_of_ble_eq_true rfl) (Nat.le_of_ble_eq_true rfl)
set_option maxRecDepth 100000 in
set_option maxHeartbeats 4000000 in
theorem c_X10_isOdd {l : Launch} {D : va_G} {ad : Nat → Nat} {ty : Nat → ClassId} (hl : l.stackTraces = false) (hj : ∀ i j, i < 68 → j < 68 → ad i = ad j → i = j) {σ : Dz} {x1 : Int32} {post : Int32 → Dz → Prop} (hp : P_X10_isOdd σ x1 post) : Mz l D ad ty yX10_isOdd cX10_isOdd 5 (some .boolean) r_X10_isOdd nI0 σ [.ref (ad 43), .int x1] post (fun _ _ => False) := by
  refine mz_of (by decide) hl hj (Nat.le_of_ble_eq_true rfl) ?_
  intro p e s m args below meth c K hex hr
  unfold P_X10_isOdd at hp
  show Gz p l e r_X10_isOdd s m args below meth c D ad ty 5 0 0 (Ez below D ad ty nI0 post (fun _ _ => False) args s 0 0) σ 0 [(0, .ref (ad 43)), (1, .int x1)] []
  refine gz_iload_n K dX10_isOdd_0 1 rfl ?_
  refine gz_callS K hex (c_X10_isSlot K.2.2.2.2.2 K.2.2.1 hp) cf_X10_isSlot zq5_189 dX10_isOdd_1 rfl rfl (Nat.le_of_ble_eq_true rfl) ⟨Nat.le_of_ble_eq_true rfl, Nat.le_of_ble_eq_true rfl⟩ ⟨Nat.le_of_ble_eq_true rfl, Nat.le_of_ble_eq_true rfl⟩ (Nat.le_of_ble_eq_true rfl) (Nat.le_of_ble_eq_true rfl) (fun _ _ h => h.elim) (fun r1 τ hp => ?_)
  obtain ⟨rfl, hp⟩ := hp
  refine gz_norm (st' := [.int r1]) (cells' := 0) (slots' := 0) rfl rfl rfl ?_
  refine gz_if_ne K 13 dX10_isOdd_4 (by decide) (fun h => ?_) (fun h => ?_)
  · have hp := hp.1 h
    refine gz_iconst K (v := (0 : Int32)) dX10_isOdd_13 (by decide) ?_
    refine gz_istore_n K [(2, .int (0 : Int32)), (0, .ref (ad 43)), (1, .int x1)] dX10_isOdd_14 (by decide) rfl ?_
    refine gz_iconst K (v := (1 : Int32)) dX10_isOdd_15 (by decide) ?_
    refine gz_istore_n K [(3, .int (1 : Int32)), (2, .int (0 : Int32)), (0, .ref (ad 43)), (1, .int x1)] dX10_isOdd_16 (by decide) rfl ?_
    refine gz_sub [2, 3, 1, 0] rfl ?_
    have ll_17 : ∀ (n_17 : Nat) (σ : Dz) (y1 : Int32) (y2 : Int32) (y3 : Int32) , L_X10_isOdd_17 post  n_17 σ y1 y2 y3 → Gz p l e r_X10_isOdd s m args below meth c D ad ty 5 0 0 (Ez below D ad ty nI0 post (fun _ _ => False) args s 0 0) σ 17 [(0, .ref (ad 43)), (1, .int y1), (2, .int y2), (3, .int y3)] [] := by
      intro n_17; induction n_17 with
      | zero => intro σ y1 y2 y3 hp; exact False.elim hp
      | succ n_17 ih_17 =>
        intro σ y1 y2 y3 hp
        have hp : B_X10_isOdd_17 post  (L_X10_isOdd_17 post  n_17) σ y1 y2 y3 := hp
        unfold B_X10_isOdd_17 at hp
        refine gz_iload_n K dX10_isOdd_17 3 rfl ?_
        refine gz_aload_n K dX10_isOdd_18 0 rfl ?_
        refine gz_get K (v := .int (gz_i σ 43 1)) (by decide) (ce_43 _ _ _ _ _ _) rfl inz_X10 1 (by decide) zq5_32 rfl dX10_isOdd_19 ?_
        refine gz_icmp_gt K 70 dX10_isOdd_22 (by decide) (fun h => ?_) (fun h => ?_)
        · have hp := hp.1 h
          refine gz_aload_n K dX10_isOdd_70 0 rfl ?_
          refine gz_iload_n K dX10_isOdd_71 2 rfl ?_
          refine gz_iconst K (v := (2 : Int32)) dX10_isOdd_72 (by decide) ?_
          refine gz_irem K dX10_isOdd_73 (by decide) ?_
          refine gz_iconst K (v := (1 : Int32)) dX10_isOdd_74 (by decide) ?_
          refine gz_icmp_ne K 82 dX10_isOdd_75 (by decide) (fun h => ?_) (fun h => ?_)
          · have hp := hp.1 h
            refine gz_iconst K (v := (0 : Int32)) dX10_isOdd_82 (by decide) ?_
            refine gz_callV K hex (c_X10_so K.2.2.2.2.2 K.2.2.1 hp) cf_X10_so zq6_34 (by decide) (ce_43 _ _ _ _ _ _) rfl dX10_isOdd_83 rfl rfl (Nat.le_of_ble_eq_true rfl) ⟨Nat.le_of_ble_eq_true rfl, Nat.le_of_ble_eq_true rfl⟩ ⟨Nat.le_of_ble_eq_true rfl, Nat.le_of_ble_eq_true rfl⟩ (Nat.le_of_ble_eq_true rfl) (Nat.le_of_ble_eq_true rfl) (fun _ _ h => h.elim) (fun r83 τ83 hp => ?_)
            refine gz_norm (st' := [.int r83]) (cells' := 0) (slots' := 0) rfl rfl rfl ?_
            exact gz_zret K hr (nB hp.1) hp.2 dX10_isOdd_86 (Nat.le_of_ble_eq_true rfl) (Nat.le_of_ble_eq_true rfl)
          · have hp := hp.2 h
            refine gz_iconst K (v := (1 : Int32)) dX10_isOdd_78 (by decide) ?_
            refine gz_goto K 83 dX10_isOdd_79 (by decide) ?_
            refine gz_callV K hex (c_X10_so K.2.2.2.2.2 K.2.2.1 hp) cf_X10_so zq6_34 (by decide) (ce_43 _ _ _ _ _ _) rfl dX10_isOdd_83 rfl rfl (Nat.le_of_ble_eq_true rfl) ⟨Nat.le_of_ble_eq_true rfl, Nat.le_of_ble_eq_true rfl⟩ ⟨Nat.le_of_ble_eq_true rfl, Nat.le_of_ble_eq_true rfl⟩ (Nat.le_of_ble_eq_true rfl) (Nat.le_of_ble_eq_true rfl) (fun _ _ h => h.elim) (fun r83 τ83 hp => ?_)
            refine gz_norm (st' := [.int r83]) (cells' := 0) (slots' := 0) rfl rfl rfl ?_
            exact gz_zret K hr (nB hp.1) hp.2 dX10_isOdd_86 (Nat.le_of_ble_eq_true rfl) (Nat.le_of_ble_eq_true rfl)
        · have hp := hp.2 h
          refine gz_iconst K (v := (1 : Int32)) dX10_isOdd_25 (by decide) ?_
          refine gz_istore K [(4, .int (1 : Int32)), (0, .ref (ad 43)), (1, .int y1), (2, .int y2), (3, .int y3)] dX10_isOdd_26 (by decide) rfl ?_
          refine gz_sub [1, 2, 3, 4, 0] rfl ?_
          have ll_28 : ∀ (n_28 : Nat) (σ : Dz) (y1 : Int32) (y2 : Int32) (y3 : Int32) (y4 : Int32) , L_X10_isOdd_28 post (L_X10_isOdd_17 post  n_17) n_28 σ y1 y2 y3 y4 → Gz p l e r_X10_isOdd s m args below meth c D ad ty 5 0 0 (Ez below D ad ty nI0 post (fun _ _ => False) args s 0 0) σ 28 [(0, .ref (ad 43)), (1, .int y1), (2, .int y2), (3, .int y3), (4, .int y4)] [] := by
            intro n_28; induction n_28 with
            | zero => intro σ y1 y2 y3 y4 hp; exact False.elim hp
            | succ n_28 ih_28 =>
              intro σ y1 y2 y3 y4 hp
              have hp : B_X10_isOdd_28 post (L_X10_isOdd_17 post  n_17) (L_X10_isOdd_28 post (L_X10_isOdd_17 post  n_17) n_28) σ y1 y2 y3 y4 := hp
              unfold B_X10_isOdd_28 at hp
              have bb_56 : ∀ (σ : Dz) (y1 : Int32) (y3 : Int32) (y4 : Int32) (z0 : Int32) (z1 : Int32) , B_X10_isOdd_56 post (L_X10_isOdd_17 post  n_17) (L_X10_isOdd_28 post (L_X10_isOdd_17 post  n_17) n_28) σ y1 y3 y4 z0 z1 → Gz p l e r_X10_isOdd s m args below meth c D ad ty 5 0 0 (Ez below D ad ty nI0 post (fun _ _ => False) args s 0 0) σ 56 [(0, .ref (ad 43)), (1, .int y1), (3, .int y3), (4, .int y4)] [.int z0, .int z1] := by
                intro σ y1 y3 y4 z0 z1 hp
                unfold B_X10_isOdd_56 at hp
                refine gz_iadd K dX10_isOdd_56 ?_
                refine gz_istore_n K [(2, .int (z1 + z0)), (0, .ref (ad 43)), (1, .int y1), (3, .int y3), (4, .int y4)] dX10_isOdd_57 (by decide) rfl ?_
                refine gz_iinc K (v := (y4 + 1)) [(4, .int (y4 + 1)), (2, .int (z1 + z0)), (0, .ref (ad 43)), (1, .int y1), (3, .int y3)] dX10_isOdd_58 4 rfl (by first | rfl | decide) (by decide) rfl ?_
                refine gz_goto K 28 dX10_isOdd_61 (by decide) ?_
                refine gz_sub [2, 3, 1, 4, 0] rfl ?_
                exact ih_28 σ y1 (z1 + z0) y3 (y4 + 1)  hp
              refine gz_iload K dX10_isOdd_28 4 rfl ?_
              refine gz_iload_n K dX10_isOdd_30 3 rfl ?_
              refine gz_icmp_ge K 64 dX10_isOdd_31 (by decide) (fun h => ?_) (fun h => ?_)
              · have hp := hp.1 h
                refine gz_iinc K (v := (y3 + 1)) [(3, .int (y3 + 1)), (0, .ref (ad 43)), (1, .int y1), (2, .int y2), (4, .int y4)] dX10_isOdd_64 3 rfl (by first | rfl | decide) (by decide) rfl ?_
                refine gz_goto K 17 dX10_isOdd_67 (by decide) ?_
                refine gz_sub [1, 2, 3, 0] rfl ?_
                exact ih_17 σ y1 y2 (y3 + 1)  hp
              · have hp := hp.2 h
                refine gz_iload_n K dX10_isOdd_34 2 rfl ?_
                refine gz_aload_n K dX10_isOdd_35 0 rfl ?_
                refine gz_iload_n K dX10_isOdd_36 1 rfl ?_
                refine gz_iload_n K dX10_isOdd_37 3 rfl ?_
                refine gz_callV K hex (c_X10_ledBy K.2.2.2.2.2 K.2.2.1 hp) cf_X10_ledBy zq6_22 (by decide) (ce_43 _ _ _ _ _ _) rfl dX10_isOdd_38 rfl rfl (Nat.le_of_ble_eq_true rfl) ⟨Nat.le_of_ble_eq_true rfl, Nat.le_of_ble_eq_true rfl⟩ ⟨Nat.le_of_ble_eq_true rfl, Nat.le_of_ble_eq_true rfl⟩ (Nat.le_of_ble_eq_true rfl) (Nat.le_of_ble_eq_true rfl) (fun _ _ h => h.elim) (fun r38 τ hp => ?_)
                obtain ⟨rfl, hp⟩ := hp
                refine gz_norm (st' := [.int r38, .int y2]) (cells' := 0) (slots' := 0) rfl rfl rfl ?_
                refine gz_aload_n K dX10_isOdd_41 0 rfl ?_
                refine gz_iload_n K dX10_isOdd_42 1 rfl ?_
                refine gz_iload K dX10_isOdd_43 4 rfl ?_
                refine gz_callV K hex (c_X10_ledBy K.2.2.2.2.2 K.2.2.1 hp) cf_X10_ledBy zq6_22 (by decide) (ce_43 _ _ _ _ _ _) rfl dX10_isOdd_45 rfl rfl (Nat.le_of_ble_eq_true rfl) ⟨Nat.le_of_ble_eq_true rfl, Nat.le_of_ble_eq_true rfl⟩ ⟨Nat.le_of_ble_eq_true rfl, Nat.le_of_ble_eq_true rfl⟩ (Nat.le_of_ble_eq_true rfl) (Nat.le_of_ble_eq_true rfl) (fun _ _ h => h.elim) (fun r45 τ hp => ?_)
                obtain ⟨rfl, hp⟩ := hp
                refine gz_norm (st' := [.int r45, .int r38, .int y2]) (cells' := 0) (slots' := 0) rfl rfl rfl ?_
                refine gz_icmp_ge K 55 dX10_isOdd_48 (by decide) (fun h => ?_) (fun h => ?_)
                · have hp := hp.1 h
                  refine gz_iconst K (v := (0 : Int32)) dX10_isOdd_55 (by decide) ?_
                  refine gz_sub [0, 1, 3, 4] rfl ?_
                  exact bb_56 σ y1 y3 y4 (0 : Int32) y2  hp
                · have hp := hp.2 h
                  refine gz_iconst K (v := (1 : Int32)) dX10_isOdd_51 (by decide) ?_
                  refine gz_goto K 56 dX10_isOdd_52 (by decide) ?_
                  refine gz_sub [0, 1, 3, 4] rfl ?_
                  exact bb_56 σ y1 y3 y4 (1 : Int32) y2  hp
          obtain ⟨n, hp⟩ := hp
          exact ll_28 n σ y1 y2 y3 (1 : Int32)  hp
    obtain ⟨n, hp⟩ := hp
    exact ll_17 n σ x1 (0 : Int32) (1 : Int32)  hp
  · have hp := hp.2 h
    refine gz_aload_n K dX10_isOdd_7 0 rfl ?_
    refine gz_iconst K (v := (1 : Int32)) dX10_isOdd_8 (by decide) ?_
    refine gz_callV K hex (c_X10_not K.2.2.2.2.2 K.2.2.1 hp) cf_X10_not zq6_30 (by decide) (ce_43 _ _ _ _ _ _) rfl dX10_isOdd_9 rfl rfl (Nat.le_of_ble_eq_true rfl) ⟨Nat.le_of_ble_eq_true rfl, Nat.le_of_ble_eq_true rfl⟩ ⟨Nat.le_of_ble_eq_true rfl, Nat.le_of_ble_eq_true rfl⟩ (Nat.le_of_ble_eq_true rfl) (Nat.le_of_ble_eq_true rfl) (fun _ _ h => h.elim) (fun r9 τ9 hp => ?_)
    refine gz_norm (st' := [.int r9]) (cells' := 0) (slots' := 0) rfl rfl rfl ?_
    exact gz_zret K hr (nB hp.1) hp.2 dX10_isOdd_12 (Nat.le_of_ble_eq_true rfl) (Nat.le_of_ble_eq_true rfl)
set_option maxRecDepth 100000 in
set_option maxHeartbeats 4000000 in
theorem c_X10_cycleLength {l : Launch} {D : va_G} {ad : Nat → Nat} {ty : Nat → ClassId} (hl : l.stackTraces = false) (hj : ∀ i j, i < 68 → j < 68 → ad i = ad j → i = j) {σ : Dz} {x1 : Int32} {x2 : Int32} {post : Int32 → Dz → Prop} (hp : P_X10_cycleLength σ x1 x2 post) : Mz l D ad ty yX10_cycleLength cX10_cycleLength 3 (some .int) r_X10_cycleLength nI0 σ [.ref (ad 43), .int x1, .int x2] post (fun _ _ => False) := by
  refine mz_of (by decide) hl hj (Nat.le_of_ble_eq_true rfl) ?_
  intro p e s m args below meth c K hex hr
  unfold P_X10_cycleLength at hp
  show Gz p l e r_X10_cycleLength s m args below meth c D ad ty 3 0 0 (Ez below D ad ty nI0 post (fun _ _ => False) args s 0 0) σ 0 [(0, .ref (ad 43)), (1, .int x1), (2, .int x2)] []
  refine gz_iload_n K dX10_cycleLength_0 1 rfl ?_
  refine gz_callS K hex (c_X10_isSlot K.2.2.2.2.2 K.2.2.1 hp) cf_X10_isSlot zq5_189 dX10_cycleLength_1 rfl rfl (Nat.le_of_ble_eq_true rfl) ⟨Nat.le_of_ble_eq_true rfl, Nat.le_of_ble_eq_true rfl⟩ ⟨Nat.le_of_ble_eq_true rfl, Nat.le_of_ble_eq_true rfl⟩ (Nat.le_of_ble_eq_true rfl) (Nat.le_of_ble_eq_true rfl) (fun _ _ h => h.elim) (fun r1 τ hp => ?_)
  obtain ⟨rfl, hp⟩ := hp
  refine gz_norm (st' := [.int r1]) (cells' := 0) (slots' := 0) rfl rfl rfl ?_
  refine gz_if_eq K 28 dX10_cycleLength_4 (by decide) (fun h => ?_) (fun h => ?_)
  · have hp := hp.1 h
    refine gz_aload_n K dX10_cycleLength_28 0 rfl ?_
    refine gz_iconst K (v := (1 : Int32)) dX10_cycleLength_29 (by decide) ?_
    refine gz_callV K hex (c_X10_fails K.2.2.2.2.2 K.2.2.1 hp) cf_X10_fails zq5_149 (by decide) (ce_43 _ _ _ _ _ _) rfl dX10_cycleLength_30 rfl rfl (Nat.le_of_ble_eq_true rfl) ⟨Nat.le_of_ble_eq_true rfl, Nat.le_of_ble_eq_true rfl⟩ ⟨Nat.le_of_ble_eq_true rfl, Nat.le_of_ble_eq_true rfl⟩ (Nat.le_of_ble_eq_true rfl) (Nat.le_of_ble_eq_true rfl) (fun _ _ h => h.elim) (fun r30 τ30 hp => ?_)
    refine gz_norm (st' := [.int r30]) (cells' := 0) (slots' := 0) rfl rfl rfl ?_
    exact gz_iret K hr hp dX10_cycleLength_33 (Nat.le_of_ble_eq_true rfl) (Nat.le_of_ble_eq_true rfl)
  · have hp := hp.2 h
    refine gz_aload_n K dX10_cycleLength_7 0 rfl ?_
    refine gz_iload_n K dX10_cycleLength_8 2 rfl ?_
    refine gz_callV K hex (c_X10_isPosition K.2.2.2.2.2 K.2.2.1 hp) cf_X10_isPosition zq5_181 (by decide) (ce_43 _ _ _ _ _ _) rfl dX10_cycleLength_9 rfl rfl (Nat.le_of_ble_eq_true rfl) ⟨Nat.le_of_ble_eq_true rfl, Nat.le_of_ble_eq_true rfl⟩ ⟨Nat.le_of_ble_eq_true rfl, Nat.le_of_ble_eq_true rfl⟩ (Nat.le_of_ble_eq_true rfl) (Nat.le_of_ble_eq_true rfl) (fun _ _ h => h.elim) (fun r9 τ hp => ?_)
    obtain ⟨rfl, hp⟩ := hp
    refine gz_norm (st' := [.int r9]) (cells' := 0) (slots' := 0) rfl rfl rfl ?_
    refine gz_if_eq K 28 dX10_cycleLength_12 (by decide) (fun h => ?_) (fun h => ?_)
    · have hp := hp.1 h
      refine gz_aload_n K dX10_cycleLength_28 0 rfl ?_
      refine gz_iconst K (v := (1 : Int32)) dX10_cycleLength_29 (by decide) ?_
      refine gz_callV K hex (c_X10_fails K.2.2.2.2.2 K.2.2.1 hp) cf_X10_fails zq5_149 (by decide) (ce_43 _ _ _ _ _ _) rfl dX10_cycleLength_30 rfl rfl (Nat.le_of_ble_eq_true rfl) ⟨Nat.le_of_ble_eq_true rfl, Nat.le_of_ble_eq_true rfl⟩ ⟨Nat.le_of_ble_eq_true rfl, Nat.le_of_ble_eq_true rfl⟩ (Nat.le_of_ble_eq_true rfl) (Nat.le_of_ble_eq_true rfl) (fun _ _ h => h.elim) (fun r30 τ30 hp => ?_)
      refine gz_norm (st' := [.int r30]) (cells' := 0) (slots' := 0) rfl rfl rfl ?_
      exact gz_iret K hr hp dX10_cycleLength_33 (Nat.le_of_ble_eq_true rfl) (Nat.le_of_ble_eq_true rfl)
    · have hp := hp.2 h
      refine gz_aload_n K dX10_cycleLength_15 0 rfl ?_
      refine gz_aload_n K dX10_cycleLength_16 0 rfl ?_
      refine gz_iload_n K dX10_cycleLength_17 1 rfl ?_
      refine gz_iload_n K dX10_cycleLength_18 2 rfl ?_
      refine gz_callV K hex (c_X10_cycleOf K.2.2.2.2.2 K.2.2.1 hp) cf_X10_cycleOf zq6_18 (by decide) (ce_43 _ _ _ _ _ _) rfl dX10_cycleLength_19 rfl rfl (Nat.le_of_ble_eq_true rfl) ⟨Nat.le_of_ble_eq_true rfl, Nat.le_of_ble_eq_true rfl⟩ ⟨Nat.le_of_ble_eq_true rfl, Nat.le_of_ble_eq_true rfl⟩ (Nat.le_of_ble_eq_true rfl) (Nat.le_of_ble_eq_true rfl) (fun _ _ h => h.elim) (fun r19 τ hp => ?_)
      obtain ⟨rfl, hp⟩ := hp
      refine gz_norm (st' := [.int r19, .ref (ad 43)]) (cells' := 0) (slots' := 0) rfl rfl rfl ?_
      refine gz_callV K hex (c_X10_done K.2.2.2.2.2 K.2.2.1 hp) cf_X10_done zq5_153 (by decide) (ce_43 _ _ _ _ _ _) rfl dX10_cycleLength_22 rfl rfl (Nat.le_of_ble_eq_true rfl) ⟨Nat.le_of_ble_eq_true rfl, Nat.le_of_ble_eq_true rfl⟩ ⟨Nat.le_of_ble_eq_true rfl, Nat.le_of_ble_eq_true rfl⟩ (Nat.le_of_ble_eq_true rfl) (Nat.le_of_ble_eq_true rfl) (fun _ _ h => h.elim) (fun r22 τ22 hp => ?_)
      refine gz_norm (st' := [.int r22]) (cells' := 0) (slots' := 0) rfl rfl rfl ?_
      refine gz_goto K 33 dX10_cycleLength_25 (by decide) ?_
      exact gz_iret K hr hp dX10_cycleLength_33 (Nat.le_of_ble_eq_true rfl) (Nat.le_of_ble_eq_true rfl)
set_option maxRecDepth 100000 in
set_option maxHeartbeats 4000000 in
theorem c_X10_isSame {l : Launch} {D : va_G} {ad : Nat → Nat} {ty : Nat → ClassId} (hl : l.stackTraces = false) (hj : ∀ i j, i < 68 → j < 68 → ad i = ad j → i = j) {σ : Dz} {x1 : Int32} {x2 : Int32} {post : Int32 → Dz → Prop} (hp : P_X10_isSame σ x1 x2 post) : Mz l D ad ty yX10_isSame cX10_isSame 5 (some .boolean) r_X10_isSame nI0 σ [.ref (ad 43), .int x1, .int x2] post (fun _ _ => False) := by
  refine mz_of (by decide) hl hj (Nat.le_of_ble_eq_true rfl) ?_
  intro p e s m args below meth c K hex hr
  unfold P_X10_isSame at hp
  show Gz p l e r_X10_isSame s m args below meth c D ad ty 5 0 0 (Ez below D ad ty nI0 post (fun _ _ => False) args s 0 0) σ 0 [(0, .ref (ad 43)), (1, .int x1), (2, .int x2)] []
  refine gz_iload_n K dX10_isSame_0 1 rfl ?_
  refine gz_callS K hex (c_X10_isSlot K.2.2.2.2.2 K.2.2.1 hp) cf_X10_isSlot zq5_189 dX10_isSame_1 rfl rfl (Nat.le_of_ble_eq_true rfl) ⟨Nat.le_of_ble_eq_true rfl, Nat.le_of_ble_eq_true rfl⟩ ⟨Nat.le_of_ble_eq_true rfl, Nat.le_of_ble_eq_true rfl⟩ (Nat.le_of_ble_eq_true rfl) (Nat.le_of_ble_eq_true rfl) (fun _ _ h => h.elim) (fun r1 τ hp => ?_)
  obtain ⟨rfl, hp⟩ := hp
  refine gz_norm (st' := [.int r1]) (cells' := 0) (slots' := 0) rfl rfl rfl ?_
  refine gz_if_eq K 14 dX10_isSame_4 (by decide) (fun h => ?_) (fun h => ?_)
  · have hp := hp.1 h
    refine gz_aload_n K dX10_isSame_14 0 rfl ?_
    refine gz_iconst K (v := (1 : Int32)) dX10_isSame_15 (by decide) ?_
    refine gz_callV K hex (c_X10_not K.2.2.2.2.2 K.2.2.1 hp) cf_X10_not zq6_30 (by decide) (ce_43 _ _ _ _ _ _) rfl dX10_isSame_16 rfl rfl (Nat.le_of_ble_eq_true rfl) ⟨Nat.le_of_ble_eq_true rfl, Nat.le_of_ble_eq_true rfl⟩ ⟨Nat.le_of_ble_eq_true rfl, Nat.le_of_ble_eq_true rfl⟩ (Nat.le_of_ble_eq_true rfl) (Nat.le_of_ble_eq_true rfl) (fun _ _ h => h.elim) (fun r16 τ16 hp => ?_)
    refine gz_norm (st' := [.int r16]) (cells' := 0) (slots' := 0) rfl rfl rfl ?_
    exact gz_zret K hr (nB hp.1) hp.2 dX10_isSame_19 (Nat.le_of_ble_eq_true rfl) (Nat.le_of_ble_eq_true rfl)
  · have hp := hp.2 h
    refine gz_iload_n K dX10_isSame_7 2 rfl ?_
    refine gz_callS K hex (c_X10_isSlot K.2.2.2.2.2 K.2.2.1 hp) cf_X10_isSlot zq5_189 dX10_isSame_8 rfl rfl (Nat.le_of_ble_eq_true rfl) ⟨Nat.le_of_ble_eq_true rfl, Nat.le_of_ble_eq_true rfl⟩ ⟨Nat.le_of_ble_eq_true rfl, Nat.le_of_ble_eq_true rfl⟩ (Nat.le_of_ble_eq_true rfl) (Nat.le_of_ble_eq_true rfl) (fun _ _ h => h.elim) (fun r8 τ hp => ?_)
    obtain ⟨rfl, hp⟩ := hp
    refine gz_norm (st' := [.int r8]) (cells' := 0) (slots' := 0) rfl rfl rfl ?_
    refine gz_if_ne K 20 dX10_isSame_11 (by decide) (fun h => ?_) (fun h => ?_)
    · have hp := hp.1 h
      refine gz_iconst K (v := (1 : Int32)) dX10_isSame_20 (by decide) ?_
      refine gz_istore_n K [(3, .int (1 : Int32)), (0, .ref (ad 43)), (1, .int x1), (2, .int x2)] dX10_isSame_21 (by decide) rfl ?_
      refine gz_iconst K (v := (1 : Int32)) dX10_isSame_22 (by decide) ?_
      refine gz_istore K [(4, .int (1 : Int32)), (3, .int (1 : Int32)), (0, .ref (ad 43)), (1, .int x1), (2, .int x2)] dX10_isSame_23 (by decide) rfl ?_
      refine gz_sub [2, 3, 4, 1, 0] rfl ?_
      have ll_25 : ∀ (n_25 : Nat) (σ : Dz) (y1 : Int32) (y2 : Int32) (y3 : Int32) (y4 : Int32) , L_X10_isSame_25 post  n_25 σ y1 y2 y3 y4 → Gz p l e r_X10_isSame s m args below meth c D ad ty 5 0 0 (Ez below D ad ty nI0 post (fun _ _ => False) args s 0 0) σ 25 [(0, .ref (ad 43)), (1, .int y1), (2, .int y2), (3, .int y3), (4, .int y4)] [] := by
        intro n_25; induction n_25 with
        | zero => intro σ y1 y2 y3 y4 hp; exact False.elim hp
        | succ n_25 ih_25 =>
          intro σ y1 y2 y3 y4 hp
          have hp : B_X10_isSame_25 post  (L_X10_isSame_25 post  n_25) σ y1 y2 y3 y4 := hp
          unfold B_X10_isSame_25 at hp
          have bb_60 : ∀ (σ : Dz) (y1 : Int32) (y2 : Int32) (y4 : Int32) (z0 : Int32) , B_X10_isSame_60 post (L_X10_isSame_25 post  n_25) σ y1 y2 y4 z0 → Gz p l e r_X10_isSame s m args below meth c D ad ty 5 0 0 (Ez below D ad ty nI0 post (fun _ _ => False) args s 0 0) σ 60 [(0, .ref (ad 43)), (1, .int y1), (2, .int y2), (4, .int y4)] [.int z0] := by
            intro σ y1 y2 y4 z0 hp
            unfold B_X10_isSame_60 at hp
            refine gz_istore_n K [(3, .int z0), (0, .ref (ad 43)), (1, .int y1), (2, .int y2), (4, .int y4)] dX10_isSame_60 (by decide) rfl ?_
            refine gz_iinc K (v := (y4 + 1)) [(4, .int (y4 + 1)), (3, .int z0), (0, .ref (ad 43)), (1, .int y1), (2, .int y2)] dX10_isSame_61 4 rfl (by first | rfl | decide) (by decide) rfl ?_
            refine gz_goto K 25 dX10_isSame_64 (by decide) ?_
            refine gz_sub [2, 3, 4, 1, 0] rfl ?_
            exact ih_25 σ y1 y2 z0 (y4 + 1)  hp
          have bb_59 : ∀ (σ : Dz) (y1 : Int32) (y2 : Int32) (y4 : Int32) , B_X10_isSame_59 post (L_X10_isSame_25 post  n_25) σ y1 y2 y4 → Gz p l e r_X10_isSame s m args below meth c D ad ty 5 0 0 (Ez below D ad ty nI0 post (fun _ _ => False) args s 0 0) σ 59 [(0, .ref (ad 43)), (1, .int y1), (2, .int y2), (4, .int y4)] [] := by
            intro σ y1 y2 y4 hp
            unfold B_X10_isSame_59 at hp
            refine gz_iconst K (v := (0 : Int32)) dX10_isSame_59 (by decide) ?_
            exact bb_60 σ y1 y2 y4 (0 : Int32)  hp
          refine gz_iload K dX10_isSame_25 4 rfl ?_
          refine gz_aload_n K dX10_isSame_27 0 rfl ?_
          refine gz_get K (v := .int (gz_i σ 43 1)) (by decide) (ce_43 _ _ _ _ _ _) rfl inz_X10 1 (by decide) zq5_32 rfl dX10_isSame_28 ?_
          refine gz_icmp_gt K 67 dX10_isSame_31 (by decide) (fun h => ?_) (fun h => ?_)
          · have hp := hp.1 h
            refine gz_aload_n K dX10_isSame_67 0 rfl ?_
            refine gz_iload_n K dX10_isSame_68 3 rfl ?_
            refine gz_callV K hex (c_X10_so K.2.2.2.2.2 K.2.2.1 hp) cf_X10_so zq6_34 (by decide) (ce_43 _ _ _ _ _ _) rfl dX10_isSame_69 rfl rfl (Nat.le_of_ble_eq_true rfl) ⟨Nat.le_of_ble_eq_true rfl, Nat.le_of_ble_eq_true rfl⟩ ⟨Nat.le_of_ble_eq_true rfl, Nat.le_of_ble_eq_true rfl⟩ (Nat.le_of_ble_eq_true rfl) (Nat.le_of_ble_eq_true rfl) (fun _ _ h => h.elim) (fun r69 τ69 hp => ?_)
            refine gz_norm (st' := [.int r69]) (cells' := 0) (slots' := 0) rfl rfl rfl ?_
            exact gz_zret K hr (nB hp.1) hp.2 dX10_isSame_72 (Nat.le_of_ble_eq_true rfl) (Nat.le_of_ble_eq_true rfl)
          · have hp := hp.2 h
            refine gz_iload_n K dX10_isSame_34 3 rfl ?_
            refine gz_if_eq K 59 dX10_isSame_35 (by decide) (fun h => ?_) (fun h => ?_)
            · have hp := hp.1 h
              refine gz_sub [0, 1, 2, 4] rfl ?_
              exact bb_59 σ y1 y2 y4  hp
            · have hp := hp.2 h
              refine gz_aload_n K dX10_isSame_38 0 rfl ?_
              refine gz_iload_n K dX10_isSame_39 1 rfl ?_
              refine gz_iload K dX10_isSame_40 4 rfl ?_
              refine gz_callV K hex (c_X10_ledBy K.2.2.2.2.2 K.2.2.1 hp) cf_X10_ledBy zq6_22 (by decide) (ce_43 _ _ _ _ _ _) rfl dX10_isSame_42 rfl rfl (Nat.le_of_ble_eq_true rfl) ⟨Nat.le_of_ble_eq_true rfl, Nat.le_of_ble_eq_true rfl⟩ ⟨Nat.le_of_ble_eq_true rfl, Nat.le_of_ble_eq_true rfl⟩ (Nat.le_of_ble_eq_true rfl) (Nat.le_of_ble_eq_true rfl) (fun _ _ h => h.elim) (fun r42 τ hp => ?_)
              obtain ⟨rfl, hp⟩ := hp
              refine gz_norm (st' := [.int r42]) (cells' := 0) (slots' := 0) rfl rfl rfl ?_
              refine gz_aload_n K dX10_isSame_45 0 rfl ?_
              refine gz_iload_n K dX10_isSame_46 2 rfl ?_
              refine gz_iload K dX10_isSame_47 4 rfl ?_
              refine gz_callV K hex (c_X10_ledBy K.2.2.2.2.2 K.2.2.1 hp) cf_X10_ledBy zq6_22 (by decide) (ce_43 _ _ _ _ _ _) rfl dX10_isSame_49 rfl rfl (Nat.le_of_ble_eq_true rfl) ⟨Nat.le_of_ble_eq_true rfl, Nat.le_of_ble_eq_true rfl⟩ ⟨Nat.le_of_ble_eq_true rfl, Nat.le_of_ble_eq_true rfl⟩ (Nat.le_of_ble_eq_true rfl) (Nat.le_of_ble_eq_true rfl) (fun _ _ h => h.elim) (fun r49 τ hp => ?_)
              obtain ⟨rfl, hp⟩ := hp
              refine gz_norm (st' := [.int r49, .int r42]) (cells' := 0) (slots' := 0) rfl rfl rfl ?_
              refine gz_icmp_ne K 59 dX10_isSame_52 (by decide) (fun h => ?_) (fun h => ?_)
              · have hp := hp.1 h
                refine gz_sub [0, 1, 2, 4] rfl ?_
                exact bb_59 σ y1 y2 y4  hp
              · have hp := hp.2 h
                refine gz_iconst K (v := (1 : Int32)) dX10_isSame_55 (by decide) ?_
                refine gz_goto K 60 dX10_isSame_56 (by decide) ?_
                refine gz_sub [0, 1, 2, 4] rfl ?_
                exact bb_60 σ y1 y2 y4 (1 : Int32)  hp
      obtain ⟨n, hp⟩ := hp
      exact ll_25 n σ x1 x2 (1 : Int32) (1 : Int32)  hp
    · have hp := hp.2 h
      refine gz_aload_n K dX10_isSame_14 0 rfl ?_
      refine gz_iconst K (v := (1 : Int32)) dX10_isSame_15 (by decide) ?_
      refine gz_callV K hex (c_X10_not K.2.2.2.2.2 K.2.2.1 hp) cf_X10_not zq6_30 (by decide) (ce_43 _ _ _ _ _ _) rfl dX10_isSame_16 rfl rfl (Nat.le_of_ble_eq_true rfl) ⟨Nat.le_of_ble_eq_true rfl, Nat.le_of_ble_eq_true rfl⟩ ⟨Nat.le_of_ble_eq_true rfl, Nat.le_of_ble_eq_true rfl⟩ (Nat.le_of_ble_eq_true rfl) (Nat.le_of_ble_eq_true rfl) (fun _ _ h => h.elim) (fun r16 τ16 hp => ?_)
      refine gz_norm (st' := [.int r16]) (cells' := 0) (slots' := 0) rfl rfl rfl ?_
      exact gz_zret K hr (nB hp.1) hp.2 dX10_isSame_19 (Nat.le_of_ble_eq_true rfl) (Nat.le_of_ble_eq_true rfl)
set_option maxRecDepth 100000 in
set_option maxHeartbeats 4000000 in
theorem c_X10_perform {l : Launch} {D : va_G} {ad : Nat → Nat} {ty : Nat → ClassId} (hl : l.stackTraces = false) (hj : ∀ i j, i < 68 → j < 68 → ad i = ad j → i = j) {σ : Dz} {x1 : Int32} {x2 : Int32} {post : Int32 → Dz → Prop} (hp : P_X10_perform σ x1 x2 post) : Mz l D ad ty yX10_perform cX10_perform 9 (some .int) r_X10_perform nI0 σ [.ref (ad 43), .int x1, .int x2] post (fun _ _ => False) := by
  refine mz_of (by decide) hl hj (Nat.le_of_ble_eq_true rfl) ?_
  intro p e s m args below meth c K hex hr
  unfold P_X10_perform at hp
  show Gz p l e r_X10_perform s m args below meth c D ad ty 9 0 0 (Ez below D ad ty nI0 post (fun _ _ => False) args s 0 0) σ 0 [(0, .ref (ad 43)), (1, .int x1), (2, .int x2)] []
  refine gz_iload_n K dX10_perform_0 1 rfl ?_
  refine gz_callS K hex (c_X10_isSlot K.2.2.2.2.2 K.2.2.1 hp) cf_X10_isSlot zq5_189 dX10_perform_1 rfl rfl (Nat.le_of_ble_eq_true rfl) ⟨Nat.le_of_ble_eq_true rfl, Nat.le_of_ble_eq_true rfl⟩ ⟨Nat.le_of_ble_eq_true rfl, Nat.le_of_ble_eq_true rfl⟩ (Nat.le_of_ble_eq_true rfl) (Nat.le_of_ble_eq_true rfl) (fun _ _ h => h.elim) (fun r1 τ hp => ?_)
  obtain ⟨rfl, hp⟩ := hp
  refine gz_norm (st' := [.int r1]) (cells' := 0) (slots' := 0) rfl rfl rfl ?_
  refine gz_if_ne K 13 dX10_perform_4 (by decide) (fun h => ?_) (fun h => ?_)
  · have hp := hp.1 h
    refine gz_iload_n K dX10_perform_13 2 rfl ?_
    refine gz_bipush K (v := (-100 : Int32)) dX10_perform_14 (by decide) ?_
    refine gz_bipush K (v := (100 : Int32)) dX10_perform_16 (by decide) ?_
    refine gz_callS K hex (c_X10_in K.2.2.2.2.2 K.2.2.1 hp) cf_X10_in zq5_146 dX10_perform_18 rfl rfl (Nat.le_of_ble_eq_true rfl) ⟨Nat.le_of_ble_eq_true rfl, Nat.le_of_ble_eq_true rfl⟩ ⟨Nat.le_of_ble_eq_true rfl, Nat.le_of_ble_eq_true rfl⟩ (Nat.le_of_ble_eq_true rfl) (Nat.le_of_ble_eq_true rfl) (fun _ _ h => h.elim) (fun r18 τ hp => ?_)
    obtain ⟨rfl, hp⟩ := hp
    refine gz_norm (st' := [.int r18]) (cells' := 0) (slots' := 0) rfl rfl rfl ?_
    refine gz_if_ne K 30 dX10_perform_21 (by decide) (fun h => ?_) (fun h => ?_)
    · have hp := hp.1 h
      refine gz_iconst K (v := (0 : Int32)) dX10_perform_30 (by decide) ?_
      refine gz_istore_n K [(3, .int (0 : Int32)), (0, .ref (ad 43)), (1, .int x1), (2, .int x2)] dX10_perform_31 (by decide) rfl ?_
      refine gz_iconst K (v := (1 : Int32)) dX10_perform_32 (by decide) ?_
      refine gz_istore K [(4, .int (1 : Int32)), (3, .int (0 : Int32)), (0, .ref (ad 43)), (1, .int x1), (2, .int x2)] dX10_perform_33 (by decide) rfl ?_
      refine gz_sub [2, 3, 4, 1, 0] rfl ?_
      have ll_35 : ∀ (n_35 : Nat) (σ : Dz) (y1 : Int32) (y2 : Int32) (y3 : Int32) (y4 : Int32) , L_X10_perform_35 post  n_35 σ y1 y2 y3 y4 → Gz p l e r_X10_perform s m args below meth c D ad ty 9 0 0 (Ez below D ad ty nI0 post (fun _ _ => False) args s 0 0) σ 35 [(0, .ref (ad 43)), (1, .int y1), (2, .int y2), (3, .int y3), (4, .int y4)] [] := by
        intro n_35; induction n_35 with
        | zero => intro σ y1 y2 y3 y4 hp; exact False.elim hp
        | succ n_35 ih_35 =>
          intro σ y1 y2 y3 y4 hp
          have hp : B_X10_perform_35 post  (L_X10_perform_35 post  n_35) σ y1 y2 y3 y4 := hp
          unfold B_X10_perform_35 at hp
          have bb_70 : ∀ (σ : Dz) (y1 : Int32) (y2 : Int32) (y3 : Int32) (y4 : Int32) (z0 : Int32) (z1 : Int32) , B_X10_perform_70 post (L_X10_perform_35 post  n_35) σ y1 y2 y3 y4 z0 z1 → Gz p l e r_X10_perform s m args below meth c D ad ty 9 0 0 (Ez below D ad ty nI0 post (fun _ _ => False) args s 0 0) σ 70 [(0, .ref (ad 43)), (1, .int y1), (2, .int y2), (3, .int y3), (4, .int y4)] [.int z0, .int z1] := by
            intro σ y1 y2 y3 y4 z0 z1 hp
            unfold B_X10_perform_70 at hp
            refine gz_iadd K dX10_perform_70 ?_
            refine gz_istore K [(6, .int (z1 + z0)), (0, .ref (ad 43)), (1, .int y1), (2, .int y2), (3, .int y3), (4, .int y4)] dX10_perform_71 (by decide) rfl ?_
            refine gz_iload K dX10_perform_73 5 rfl ?_
            refine gz_istore K [(7, .int y4), (6, .int (z1 + z0)), (0, .ref (ad 43)), (1, .int y1), (2, .int y2), (3, .int y3), (4, .int y4)] dX10_perform_75 (by decide) rfl ?_
            refine gz_iconst K (v := (0 : Int32)) dX10_perform_77 (by decide) ?_
            refine gz_istore K [(8, .int (0 : Int32)), (7, .int y4), (6, .int (z1 + z0)), (0, .ref (ad 43)), (1, .int y1), (2, .int y2), (3, .int y3), (4, .int y4)] dX10_perform_78 (by decide) rfl ?_
            refine gz_sub [3, 4, 5, 6, 7, 2, 1, 0] rfl ?_
            have ll_80 : ∀ (n_80 : Nat) (σ : Dz) (y1 : Int32) (y2 : Int32) (y3 : Int32) (y4 : Int32) (y6 : Int32) (y7 : Int32) (y8 : Int32) , L_X10_perform_80 post (L_X10_perform_35 post  n_35) n_80 σ y1 y2 y3 y4 y6 y7 y8 → Gz p l e r_X10_perform s m args below meth c D ad ty 9 0 0 (Ez below D ad ty nI0 post (fun _ _ => False) args s 0 0) σ 80 [(0, .ref (ad 43)), (1, .int y1), (2, .int y2), (3, .int y3), (4, .int y4), (6, .int y6), (7, .int y7), (8, .int y8)] [] := by
              intro n_80; induction n_80 with
              | zero => intro σ y1 y2 y3 y4 y6 y7 y8 hp; exact False.elim hp
              | succ n_80 ih_80 =>
                intro σ y1 y2 y3 y4 y6 y7 y8 hp
                have hp : B_X10_perform_80 post (L_X10_perform_35 post  n_35) (L_X10_perform_80 post (L_X10_perform_35 post  n_35) n_80) σ y1 y2 y3 y4 y6 y7 y8 := hp
                unfold B_X10_perform_80 at hp
                refine gz_iload K dX10_perform_80 7 rfl ?_
                refine gz_iload K dX10_perform_82 5 rfl ?_
                refine gz_icmp_ge K 102 dX10_perform_84 (by decide) (fun h => ?_) (fun h => ?_)
                · have hp := hp.1 h
                  refine gz_aload_n K dX10_perform_102 0 rfl ?_
                  refine gz_get K (v := .ref (ad 60)) (by decide) (ce_43 _ _ _ _ _ _) rfl inz_X10 26 (by decide) zq5_57 rfl dX10_perform_103 ?_
                  refine gz_iload K dX10_perform_106 6 rfl ?_
                  refine gz_aload_n K dX10_perform_108 0 rfl ?_
                  refine gz_get K (v := .ref (ad 44)) (by decide) (ce_43 _ _ _ _ _ _) rfl inz_X10 2 (by decide) zq5_33 rfl dX10_perform_109 ?_
                  refine gz_iload K dX10_perform_112 4 rfl ?_
                  obtain ⟨h, hp⟩ := hp
                  refine gz_iald K (by decide) (ce_44 _ _ _ _ _ _) h dX10_perform_114 ?_
                  obtain ⟨h, hp⟩ := hp
                  refine gz_iast K (x := (gz_i σ 44 (y4).toNatClampNeg)) (by decide) (ce_60 ad ty) h dX10_perform_115 ?_
                  refine gz_iinc K (v := (y4 + 1)) [(4, .int (y4 + 1)), (0, .ref (ad 43)), (1, .int y1), (2, .int y2), (3, .int y3), (6, .int y6), (7, .int y7), (8, .int y8)] dX10_perform_116 4 rfl (by first | rfl | decide) (by decide) rfl ?_
                  refine gz_goto K 35 dX10_perform_119 (by decide) ?_
                  refine gz_sub [1, 2, 3, 4, 0] rfl ?_
                  exact ih_35 (sz_i σ 60 (y7).toNatClampNeg (gz_i σ 44 (y4).toNatClampNeg)) y1 y2 y3 (y4 + 1)  hp
                · have hp := hp.2 h
                  refine gz_aload_n K dX10_perform_87 0 rfl ?_
                  refine gz_iload_n K dX10_perform_88 1 rfl ?_
                  refine gz_iload K dX10_perform_89 6 rfl ?_
                  refine gz_callV K hex (c_X10_ledBy K.2.2.2.2.2 K.2.2.1 hp) cf_X10_ledBy zq6_22 (by decide) (ce_43 _ _ _ _ _ _) rfl dX10_perform_91 rfl rfl (Nat.le_of_ble_eq_true rfl) ⟨Nat.le_of_ble_eq_true rfl, Nat.le_of_ble_eq_true rfl⟩ ⟨Nat.le_of_ble_eq_true rfl, Nat.le_of_ble_eq_true rfl⟩ (Nat.le_of_ble_eq_true rfl) (Nat.le_of_ble_eq_true rfl) (fun _ _ h => h.elim) (fun r91 τ hp => ?_)
                  obtain ⟨rfl, hp⟩ := hp
                  refine gz_norm (st' := [.int r91]) (cells' := 0) (slots' := 0) rfl rfl rfl ?_
                  refine gz_istore K [(7, .int r91), (0, .ref (ad 43)), (1, .int y1), (2, .int y2), (3, .int y3), (4, .int y4), (6, .int y6), (8, .int y8)] dX10_perform_94 (by decide) rfl ?_
                  refine gz_iinc K (v := (y8 + 1)) [(8, .int (y8 + 1)), (7, .int r91), (0, .ref (ad 43)), (1, .int y1), (2, .int y2), (3, .int y3), (4, .int y4), (6, .int y6)] dX10_perform_96 7 rfl (by first | rfl | decide) (by decide) rfl ?_
                  refine gz_goto K 80 dX10_perform_99 (by decide) ?_
                  refine gz_sub [2, 3, 4, 5, 6, 7, 1, 0] rfl ?_
                  exact ih_80 σ y1 y2 y3 y4 y6 r91 (y8 + 1)  hp
            obtain ⟨n, hp⟩ := hp
            exact ll_80 n σ y1 y2 y3 y4 (z1 + z0) y4 (0 : Int32)  hp
          refine gz_iload K dX10_perform_35 4 rfl ?_
          refine gz_aload_n K dX10_perform_37 0 rfl ?_
          refine gz_get K (v := .int (gz_i σ 43 1)) (by decide) (ce_43 _ _ _ _ _ _) rfl inz_X10 1 (by decide) zq5_32 rfl dX10_perform_38 ?_
          refine gz_icmp_gt K 122 dX10_perform_41 (by decide) (fun h => ?_) (fun h => ?_)
          · have hp := hp.1 h
            refine gz_iconst K (v := (1 : Int32)) dX10_perform_122 (by decide) ?_
            refine gz_istore K [(4, .int (1 : Int32)), (0, .ref (ad 43)), (1, .int y1), (2, .int y2), (3, .int y3)] dX10_perform_123 (by decide) rfl ?_
            refine gz_sub [1, 4, 0] rfl ?_
            have ll_125 : ∀ (n_125 : Nat) (σ : Dz) (y3 : Int32) (y4 : Int32) , L_X10_perform_125 post  n_125 σ y3 y4 → Gz p l e r_X10_perform s m args below meth c D ad ty 9 0 0 (Ez below D ad ty nI0 post (fun _ _ => False) args s 0 0) σ 125 [(0, .ref (ad 43)), (3, .int y3), (4, .int y4)] [] := by
              intro n_125; induction n_125 with
              | zero => intro σ y3 y4 hp; exact False.elim hp
              | succ n_125 ih_125 =>
                intro σ y3 y4 hp
                have hp : B_X10_perform_125 post  (L_X10_perform_125 post  n_125) σ y3 y4 := hp
                unfold B_X10_perform_125 at hp
                have bb_157 : ∀ (σ : Dz) (y4 : Int32) (z0 : Int32) (z1 : Int32) , B_X10_perform_157 post (L_X10_perform_125 post  n_125) σ y4 z0 z1 → Gz p l e r_X10_perform s m args below meth c D ad ty 9 0 0 (Ez below D ad ty nI0 post (fun _ _ => False) args s 0 0) σ 157 [(0, .ref (ad 43)), (4, .int y4)] [.int z0, .int z1] := by
                  intro σ y4 z0 z1 hp
                  unfold B_X10_perform_157 at hp
                  refine gz_iadd K dX10_perform_157 ?_
                  refine gz_istore_n K [(3, .int (z1 + z0)), (0, .ref (ad 43)), (4, .int y4)] dX10_perform_158 (by decide) rfl ?_
                  refine gz_aload_n K dX10_perform_159 1 rfl ?_
                  refine gz_get K (v := .ref (ad 44)) (by decide) (ce_43 _ _ _ _ _ _) rfl inz_X10 2 (by decide) zq5_33 rfl dX10_perform_160 ?_
                  refine gz_iload K dX10_perform_163 2 rfl ?_
                  refine gz_aload_n K dX10_perform_165 1 rfl ?_
                  refine gz_get K (v := .ref (ad 60)) (by decide) (ce_43 _ _ _ _ _ _) rfl inz_X10 26 (by decide) zq5_57 rfl dX10_perform_166 ?_
                  refine gz_iload K dX10_perform_169 2 rfl ?_
                  obtain ⟨h, hp⟩ := hp
                  refine gz_iald K (by decide) (ce_60 _ _ _ _ _ _) h dX10_perform_171 ?_
                  obtain ⟨h, hp⟩ := hp
                  refine gz_iast K (x := (gz_i σ 60 (y4).toNatClampNeg)) (by decide) (ce_44 ad ty) h dX10_perform_172 ?_
                  refine gz_iinc K (v := (y4 + 1)) [(4, .int (y4 + 1)), (3, .int (z1 + z0)), (0, .ref (ad 43))] dX10_perform_173 2 rfl (by first | rfl | decide) (by decide) rfl ?_
                  refine gz_goto K 125 dX10_perform_176 (by decide) ?_
                  refine gz_sub [2, 1, 0] rfl ?_
                  exact ih_125 (sz_i σ 44 (y4).toNatClampNeg (gz_i σ 60 (y4).toNatClampNeg)) (z1 + z0) (y4 + 1)  hp
                refine gz_iload K dX10_perform_125 2 rfl ?_
                refine gz_aload_n K dX10_perform_127 0 rfl ?_
                refine gz_get K (v := .int (gz_i σ 43 1)) (by decide) (ce_43 _ _ _ _ _ _) rfl inz_X10 1 (by decide) zq5_32 rfl dX10_perform_128 ?_
                refine gz_icmp_gt K 179 dX10_perform_131 (by decide) (fun h => ?_) (fun h => ?_)
                · have hp := hp.1 h
                  refine gz_aload_n K dX10_perform_179 0 rfl ?_
                  refine gz_iload_n K dX10_perform_180 1 rfl ?_
                  refine gz_callV K hex (c_X10_done K.2.2.2.2.2 K.2.2.1 hp) cf_X10_done zq5_153 (by decide) (ce_43 _ _ _ _ _ _) rfl dX10_perform_181 rfl rfl (Nat.le_of_ble_eq_true rfl) ⟨Nat.le_of_ble_eq_true rfl, Nat.le_of_ble_eq_true rfl⟩ ⟨Nat.le_of_ble_eq_true rfl, Nat.le_of_ble_eq_true rfl⟩ (Nat.le_of_ble_eq_true rfl) (Nat.le_of_ble_eq_true rfl) (fun _ _ h => h.elim) (fun r181 τ181 hp => ?_)
                  refine gz_norm (st' := [.int r181]) (cells' := 0) (slots' := 0) rfl rfl rfl ?_
                  exact gz_iret K hr hp dX10_perform_184 (Nat.le_of_ble_eq_true rfl) (Nat.le_of_ble_eq_true rfl)
                · have hp := hp.2 h
                  refine gz_iload_n K dX10_perform_134 1 rfl ?_
                  refine gz_aload_n K dX10_perform_135 0 rfl ?_
                  refine gz_get K (v := .ref (ad 60)) (by decide) (ce_43 _ _ _ _ _ _) rfl inz_X10 26 (by decide) zq5_57 rfl dX10_perform_136 ?_
                  refine gz_iload K dX10_perform_139 2 rfl ?_
                  obtain ⟨h, hp⟩ := hp
                  refine gz_iald K (by decide) (ce_60 _ _ _ _ _ _) h dX10_perform_141 ?_
                  refine gz_aload_n K dX10_perform_142 0 rfl ?_
                  refine gz_get K (v := .ref (ad 44)) (by decide) (ce_43 _ _ _ _ _ _) rfl inz_X10 2 (by decide) zq5_33 rfl dX10_perform_143 ?_
                  refine gz_iload K dX10_perform_146 2 rfl ?_
                  obtain ⟨h, hp⟩ := hp
                  refine gz_iald K (by decide) (ce_44 _ _ _ _ _ _) h dX10_perform_148 ?_
                  refine gz_icmp_eq K 156 dX10_perform_149 (by decide) (fun h => ?_) (fun h => ?_)
                  · have hp := hp.1 h
                    refine gz_iconst K (v := (0 : Int32)) dX10_perform_156 (by decide) ?_
                    refine gz_sub [0, 2] rfl ?_
                    exact bb_157 σ y4 (0 : Int32) y3  hp
                  · have hp := hp.2 h
                    refine gz_iconst K (v := (1 : Int32)) dX10_perform_152 (by decide) ?_
                    refine gz_goto K 157 dX10_perform_153 (by decide) ?_
                    refine gz_sub [0, 2] rfl ?_
                    exact bb_157 σ y4 (1 : Int32) y3  hp
            obtain ⟨n, hp⟩ := hp
            exact ll_125 n σ y3 (1 : Int32)  hp
          · have hp := hp.2 h
            refine gz_aload_n K dX10_perform_44 0 rfl ?_
            refine gz_iload_n K dX10_perform_45 1 rfl ?_
            refine gz_iload K dX10_perform_46 4 rfl ?_
            refine gz_callV K hex (c_X10_cycleOf K.2.2.2.2.2 K.2.2.1 hp) cf_X10_cycleOf zq6_18 (by decide) (ce_43 _ _ _ _ _ _) rfl dX10_perform_48 rfl rfl (Nat.le_of_ble_eq_true rfl) ⟨Nat.le_of_ble_eq_true rfl, Nat.le_of_ble_eq_true rfl⟩ ⟨Nat.le_of_ble_eq_true rfl, Nat.le_of_ble_eq_true rfl⟩ (Nat.le_of_ble_eq_true rfl) (Nat.le_of_ble_eq_true rfl) (fun _ _ h => h.elim) (fun r48 τ hp => ?_)
            obtain ⟨rfl, hp⟩ := hp
            refine gz_norm (st' := [.int r48]) (cells' := 0) (slots' := 0) rfl rfl rfl ?_
            refine gz_istore K [(5, .int r48), (0, .ref (ad 43)), (1, .int y1), (2, .int y2), (3, .int y3), (4, .int y4)] dX10_perform_51 (by decide) rfl ?_
            refine gz_iload_n K dX10_perform_53 3 rfl ?_
            refine gz_iload K dX10_perform_54 0 rfl ?_
            obtain ⟨h, hp⟩ := hp
            refine gz_irem K dX10_perform_56 h ?_
            refine gz_iload_n K dX10_perform_57 3 rfl ?_
            refine gz_iload K dX10_perform_58 0 rfl ?_
            obtain ⟨h, hp⟩ := hp
            refine gz_irem K dX10_perform_60 h ?_
            refine gz_if_ge K 69 dX10_perform_61 (by decide) (fun h => ?_) (fun h => ?_)
            · have hp := hp.1 h
              refine gz_iconst K (v := (0 : Int32)) dX10_perform_69 (by decide) ?_
              refine gz_sub [1, 2, 3, 4, 5] rfl ?_
              exact bb_70 σ y1 y2 y3 y4 (0 : Int32) (y2 - y2 / r48 * r48)  hp
            · have hp := hp.2 h
              refine gz_iload K dX10_perform_64 0 rfl ?_
              refine gz_goto K 70 dX10_perform_66 (by decide) ?_
              refine gz_sub [1, 2, 3, 4, 5] rfl ?_
              exact bb_70 σ y1 y2 y3 y4 r48 (y2 - y2 / r48 * r48)  hp
      obtain ⟨n, hp⟩ := hp
      exact ll_35 n σ x1 x2 (0 : Int32) (1 : Int32)  hp
    · have hp := hp.2 h
      refine gz_aload_n K dX10_perform_24 0 rfl ?_
      refine gz_iconst K (v := (2 : Int32)) dX10_perform_25 (by decide) ?_
      refine gz_callV K hex (c_X10_fails K.2.2.2.2.2 K.2.2.1 hp) cf_X10_fails zq5_149 (by decide) (ce_43 _ _ _ _ _ _) rfl dX10_perform_26 rfl rfl (Nat.le_of_ble_eq_true rfl) ⟨Nat.le_of_ble_eq_true rfl, Nat.le_of_ble_eq_true rfl⟩ ⟨Nat.le_of_ble_eq_true rfl, Nat.le_of_ble_eq_true rfl⟩ (Nat.le_of_ble_eq_true rfl) (Nat.le_of_ble_eq_true rfl) (fun _ _ h => h.elim) (fun r26 τ26 hp => ?_)
      refine gz_norm (st' := [.int r26]) (cells' := 0) (slots' := 0) rfl rfl rfl ?_
      exact gz_iret K hr hp dX10_perform_29 (Nat.le_of_ble_eq_true rfl) (Nat.le_of_ble_eq_true rfl)
  · have hp := hp.2 h
    refine gz_aload_n K dX10_perform_7 0 rfl ?_
    refine gz_iconst K (v := (1 : Int32)) dX10_perform_8 (by decide) ?_
    refine gz_callV K hex (c_X10_fails K.2.2.2.2.2 K.2.2.1 hp) cf_X10_fails zq5_149 (by decide) (ce_43 _ _ _ _ _ _) rfl dX10_perform_9 rfl rfl (Nat.le_of_ble_eq_true rfl) ⟨Nat.le_of_ble_eq_true rfl, Nat.le_of_ble_eq_true rfl⟩ ⟨Nat.le_of_ble_eq_true rfl, Nat.le_of_ble_eq_true rfl⟩ (Nat.le_of_ble_eq_true rfl) (Nat.le_of_ble_eq_true rfl) (fun _ _ h => h.elim) (fun r9 τ9 hp => ?_)
    refine gz_norm (st' := [.int r9]) (cells' := 0) (slots' := 0) rfl rfl rfl ?_
    exact gz_iret K hr hp dX10_perform_12 (Nat.le_of_ble_eq_true rfl) (Nat.le_of_ble_eq_true rfl)
set_option maxRecDepth 100000 in
set_option maxHeartbeats 4000000 in
theorem c_X10_exchange {l : Launch} {D : va_G} {ad : Nat → Nat} {ty : Nat → ClassId} (hl : l.stackTraces = false) (hj : ∀ i j, i < 68 → j < 68 → ad i = ad j → i = j) {σ : Dz} {x1 : Int32} {x2 : Int32} {post : Int32 → Dz → Prop} (hp : P_X10_exchange σ x1 x2 post) : Mz l D ad ty yX10_exchange cX10_exchange 4 (some .int) r_X10_exchange nI0 σ [.ref (ad 43), .int x1, .int x2] post (fun _ _ => False) := by
  refine mz_of (by decide) hl hj (Nat.le_of_ble_eq_true rfl) ?_
  intro p e s m args below meth c K hex hr
  unfold P_X10_exchange at hp
  show Gz p l e r_X10_exchange s m args below meth c D ad ty 4 0 0 (Ez below D ad ty nI0 post (fun _ _ => False) args s 0 0) σ 0 [(0, .ref (ad 43)), (1, .int x1), (2, .int x2)] []
  refine gz_aload_n K dX10_exchange_0 0 rfl ?_
  refine gz_iload_n K dX10_exchange_1 1 rfl ?_
  refine gz_callV K hex (c_X10_isPosition K.2.2.2.2.2 K.2.2.1 hp) cf_X10_isPosition zq5_181 (by decide) (ce_43 _ _ _ _ _ _) rfl dX10_exchange_2 rfl rfl (Nat.le_of_ble_eq_true rfl) ⟨Nat.le_of_ble_eq_true rfl, Nat.le_of_ble_eq_true rfl⟩ ⟨Nat.le_of_ble_eq_true rfl, Nat.le_of_ble_eq_true rfl⟩ (Nat.le_of_ble_eq_true rfl) (Nat.le_of_ble_eq_true rfl) (fun _ _ h => h.elim) (fun r2 τ hp => ?_)
  obtain ⟨rfl, hp⟩ := hp
  refine gz_norm (st' := [.int r2]) (cells' := 0) (slots' := 0) rfl rfl rfl ?_
  refine gz_if_eq K 16 dX10_exchange_5 (by decide) (fun h => ?_) (fun h => ?_)
  · have hp := hp.1 h
    refine gz_aload_n K dX10_exchange_16 0 rfl ?_
    refine gz_iconst K (v := (1 : Int32)) dX10_exchange_17 (by decide) ?_
    refine gz_callV K hex (c_X10_fails K.2.2.2.2.2 K.2.2.1 hp) cf_X10_fails zq5_149 (by decide) (ce_43 _ _ _ _ _ _) rfl dX10_exchange_18 rfl rfl (Nat.le_of_ble_eq_true rfl) ⟨Nat.le_of_ble_eq_true rfl, Nat.le_of_ble_eq_true rfl⟩ ⟨Nat.le_of_ble_eq_true rfl, Nat.le_of_ble_eq_true rfl⟩ (Nat.le_of_ble_eq_true rfl) (Nat.le_of_ble_eq_true rfl) (fun _ _ h => h.elim) (fun r18 τ18 hp => ?_)
    refine gz_norm (st' := [.int r18]) (cells' := 0) (slots' := 0) rfl rfl rfl ?_
    exact gz_iret K hr hp dX10_exchange_21 (Nat.le_of_ble_eq_true rfl) (Nat.le_of_ble_eq_true rfl)
  · have hp := hp.2 h
    refine gz_aload_n K dX10_exchange_8 0 rfl ?_
    refine gz_iload_n K dX10_exchange_9 2 rfl ?_
    refine gz_callV K hex (c_X10_isPosition K.2.2.2.2.2 K.2.2.1 hp) cf_X10_isPosition zq5_181 (by decide) (ce_43 _ _ _ _ _ _) rfl dX10_exchange_10 rfl rfl (Nat.le_of_ble_eq_true rfl) ⟨Nat.le_of_ble_eq_true rfl, Nat.le_of_ble_eq_true rfl⟩ ⟨Nat.le_of_ble_eq_true rfl, Nat.le_of_ble_eq_true rfl⟩ (Nat.le_of_ble_eq_true rfl) (Nat.le_of_ble_eq_true rfl) (fun _ _ h => h.elim) (fun r10 τ hp => ?_)
    obtain ⟨rfl, hp⟩ := hp
    refine gz_norm (st' := [.int r10]) (cells' := 0) (slots' := 0) rfl rfl rfl ?_
    refine gz_if_ne K 22 dX10_exchange_13 (by decide) (fun h => ?_) (fun h => ?_)
    · have hp := hp.1 h
      refine gz_aload_n K dX10_exchange_22 0 rfl ?_
      refine gz_get K (v := .ref (ad 44)) (by decide) (ce_43 _ _ _ _ _ _) rfl inz_X10 2 (by decide) zq5_33 rfl dX10_exchange_23 ?_
      refine gz_iload_n K dX10_exchange_26 1 rfl ?_
      obtain ⟨h, hp⟩ := hp
      refine gz_iald K (by decide) (ce_44 _ _ _ _ _ _) h dX10_exchange_27 ?_
      refine gz_istore_n K [(3, .int (gz_i σ 44 (x1).toNatClampNeg)), (0, .ref (ad 43)), (1, .int x1), (2, .int x2)] dX10_exchange_28 (by decide) rfl ?_
      refine gz_aload_n K dX10_exchange_29 1 rfl ?_
      refine gz_get K (v := .ref (ad 44)) (by decide) (ce_43 _ _ _ _ _ _) rfl inz_X10 2 (by decide) zq5_33 rfl dX10_exchange_30 ?_
      refine gz_iload_n K dX10_exchange_33 2 rfl ?_
      refine gz_aload_n K dX10_exchange_34 1 rfl ?_
      refine gz_get K (v := .ref (ad 44)) (by decide) (ce_43 _ _ _ _ _ _) rfl inz_X10 2 (by decide) zq5_33 rfl dX10_exchange_35 ?_
      refine gz_iload_n K dX10_exchange_38 3 rfl ?_
      obtain ⟨h, hp⟩ := hp
      refine gz_iald K (by decide) (ce_44 _ _ _ _ _ _) h dX10_exchange_39 ?_
      obtain ⟨h, hp⟩ := hp
      refine gz_iast K (x := (gz_i σ 44 (x2).toNatClampNeg)) (by decide) (ce_44 ad ty) h dX10_exchange_40 ?_
      refine gz_aload_n K dX10_exchange_41 1 rfl ?_
      refine gz_get K (v := .ref (ad 44)) (by decide) (ce_43 _ _ _ _ _ _) rfl inz_X10 2 (by decide) zq5_33 rfl dX10_exchange_42 ?_
      refine gz_iload_n K dX10_exchange_45 3 rfl ?_
      refine gz_iload_n K dX10_exchange_46 0 rfl ?_
      obtain ⟨h, hp⟩ := hp
      refine gz_iast K (x := (gz_i σ 44 (x1).toNatClampNeg)) (by decide) (ce_44 ad ty) h dX10_exchange_47 ?_
      refine gz_aload_n K dX10_exchange_48 1 rfl ?_
      refine gz_aload_n K dX10_exchange_49 1 rfl ?_
      refine gz_get K (v := .ref (ad 44)) (by decide) (ce_43 _ _ _ _ _ _) rfl inz_X10 2 (by decide) zq5_33 rfl dX10_exchange_50 ?_
      refine gz_iload_n K dX10_exchange_53 2 rfl ?_
      obtain ⟨h, hp⟩ := hp
      refine gz_iald K (by decide) (ce_44 _ _ _ _ _ _) h dX10_exchange_54 ?_
      refine gz_callV K hex (c_X10_done K.2.2.2.2.2 K.2.2.1 hp) cf_X10_done zq5_153 (by decide) (ce_43 _ _ _ _ _ _) rfl dX10_exchange_55 rfl rfl (Nat.le_of_ble_eq_true rfl) ⟨Nat.le_of_ble_eq_true rfl, Nat.le_of_ble_eq_true rfl⟩ ⟨Nat.le_of_ble_eq_true rfl, Nat.le_of_ble_eq_true rfl⟩ (Nat.le_of_ble_eq_true rfl) (Nat.le_of_ble_eq_true rfl) (fun _ _ h => h.elim) (fun r55 τ55 hp => ?_)
      refine gz_norm (st' := [.int r55]) (cells' := 0) (slots' := 0) rfl rfl rfl ?_
      exact gz_iret K hr hp dX10_exchange_58 (Nat.le_of_ble_eq_true rfl) (Nat.le_of_ble_eq_true rfl)
    · have hp := hp.2 h
      refine gz_aload_n K dX10_exchange_16 0 rfl ?_
      refine gz_iconst K (v := (1 : Int32)) dX10_exchange_17 (by decide) ?_
      refine gz_callV K hex (c_X10_fails K.2.2.2.2.2 K.2.2.1 hp) cf_X10_fails zq5_149 (by decide) (ce_43 _ _ _ _ _ _) rfl dX10_exchange_18 rfl rfl (Nat.le_of_ble_eq_true rfl) ⟨Nat.le_of_ble_eq_true rfl, Nat.le_of_ble_eq_true rfl⟩ ⟨Nat.le_of_ble_eq_true rfl, Nat.le_of_ble_eq_true rfl⟩ (Nat.le_of_ble_eq_true rfl) (Nat.le_of_ble_eq_true rfl) (fun _ _ h => h.elim) (fun r18 τ18 hp => ?_)
      refine gz_norm (st' := [.int r18]) (cells' := 0) (slots' := 0) rfl rfl rfl ?_
      exact gz_iret K hr hp dX10_exchange_21 (Nat.le_of_ble_eq_true rfl) (Nat.le_of_ble_eq_true rfl)
set_option maxRecDepth 100000 in
set_option maxHeartbeats 4000000 in
theorem c_X10_token {l : Launch} {D : va_G} {ad : Nat → Nat} {ty : Nat → ClassId} (hl : l.stackTraces = false) (hj : ∀ i j, i < 68 → j < 68 → ad i = ad j → i = j) {σ : Dz} {x1 : Int32} {post : Int32 → Dz → Prop} (hp : P_X10_token σ x1 post) : Mz l D ad ty yX10_token cX10_token 2 (some .int) r_X10_token nI0 σ [.ref (ad 43), .int x1] post (fun _ _ => False) := by
  refine mz_of (by decide) hl hj (Nat.le_of_ble_eq_true rfl) ?_
  intro p e s m args below meth c K hex hr
  unfold P_X10_token at hp
  show Gz p l e r_X10_token s m args below meth c D ad ty 2 0 0 (Ez below D ad ty nI0 post (fun _ _ => False) args s 0 0) σ 0 [(0, .ref (ad 43)), (1, .int x1)] []
  refine gz_aload_n K dX10_token_0 0 rfl ?_
  refine gz_iload_n K dX10_token_1 1 rfl ?_
  refine gz_callV K hex (c_X10_isPosition K.2.2.2.2.2 K.2.2.1 hp) cf_X10_isPosition zq5_181 (by decide) (ce_43 _ _ _ _ _ _) rfl dX10_token_2 rfl rfl (Nat.le_of_ble_eq_true rfl) ⟨Nat.le_of_ble_eq_true rfl, Nat.le_of_ble_eq_true rfl⟩ ⟨Nat.le_of_ble_eq_true rfl, Nat.le_of_ble_eq_true rfl⟩ (Nat.le_of_ble_eq_true rfl) (Nat.le_of_ble_eq_true rfl) (fun _ _ h => h.elim) (fun r2 τ hp => ?_)
  obtain ⟨rfl, hp⟩ := hp
  refine gz_norm (st' := [.int r2]) (cells' := 0) (slots' := 0) rfl rfl rfl ?_
  refine gz_if_eq K 21 dX10_token_5 (by decide) (fun h => ?_) (fun h => ?_)
  · have hp := hp.1 h
    refine gz_aload_n K dX10_token_21 0 rfl ?_
    refine gz_iconst K (v := (1 : Int32)) dX10_token_22 (by decide) ?_
    refine gz_callV K hex (c_X10_fails K.2.2.2.2.2 K.2.2.1 hp) cf_X10_fails zq5_149 (by decide) (ce_43 _ _ _ _ _ _) rfl dX10_token_23 rfl rfl (Nat.le_of_ble_eq_true rfl) ⟨Nat.le_of_ble_eq_true rfl, Nat.le_of_ble_eq_true rfl⟩ ⟨Nat.le_of_ble_eq_true rfl, Nat.le_of_ble_eq_true rfl⟩ (Nat.le_of_ble_eq_true rfl) (Nat.le_of_ble_eq_true rfl) (fun _ _ h => h.elim) (fun r23 τ23 hp => ?_)
    refine gz_norm (st' := [.int r23]) (cells' := 0) (slots' := 0) rfl rfl rfl ?_
    exact gz_iret K hr hp dX10_token_26 (Nat.le_of_ble_eq_true rfl) (Nat.le_of_ble_eq_true rfl)
  · have hp := hp.2 h
    refine gz_aload_n K dX10_token_8 0 rfl ?_
    refine gz_aload_n K dX10_token_9 0 rfl ?_
    refine gz_get K (v := .ref (ad 44)) (by decide) (ce_43 _ _ _ _ _ _) rfl inz_X10 2 (by decide) zq5_33 rfl dX10_token_10 ?_
    refine gz_iload_n K dX10_token_13 1 rfl ?_
    obtain ⟨h, hp⟩ := hp
    refine gz_iald K (by decide) (ce_44 _ _ _ _ _ _) h dX10_token_14 ?_
    refine gz_callV K hex (c_X10_done K.2.2.2.2.2 K.2.2.1 hp) cf_X10_done zq5_153 (by decide) (ce_43 _ _ _ _ _ _) rfl dX10_token_15 rfl rfl (Nat.le_of_ble_eq_true rfl) ⟨Nat.le_of_ble_eq_true rfl, Nat.le_of_ble_eq_true rfl⟩ ⟨Nat.le_of_ble_eq_true rfl, Nat.le_of_ble_eq_true rfl⟩ (Nat.le_of_ble_eq_true rfl) (Nat.le_of_ble_eq_true rfl) (fun _ _ h => h.elim) (fun r15 τ15 hp => ?_)
    refine gz_norm (st' := [.int r15]) (cells' := 0) (slots' := 0) rfl rfl rfl ?_
    refine gz_goto K 26 dX10_token_18 (by decide) ?_
    exact gz_iret K hr hp dX10_token_26 (Nat.le_of_ble_eq_true rfl) (Nat.le_of_ble_eq_true rfl)
set_option maxRecDepth 100000 in
set_option maxHeartbeats 4000000 in
theorem c_X10_numberOf {l : Launch} {D : va_G} {ad : Nat → Nat} {ty : Nat → ClassId} (hl : l.stackTraces = false) (hj : ∀ i j, i < 68 → j < 68 → ad i = ad j → i = j) {σ : Dz} {a1 : Nat} {n1 : Nat} (h1 : isA a1 n1) {post : Int32 → Prop} (hp : P_X10_numberOf σ a1 n1 post) : Mz l D ad ty yX10_numberOf cX10_numberOf 6 (some .int) r_X10_numberOf nI0 σ [.ref (ad 43), .ref (ad a1)] (fun r τ => σ = τ ∧ post r) (fun _ _ => False) := by
  refine mz_of (by decide) hl hj (Nat.le_of_ble_eq_true rfl) ?_
  intro p e s m args below meth c K hex hr
  unfold P_X10_numberOf at hp
  show Gz p l e r_X10_numberOf s m args below meth c D ad ty 6 0 0 (Ez below D ad ty nI0 (fun r τ => σ = τ ∧ post r) (fun _ _ => False) args s 0 0) σ 0 [(0, .ref (ad 43)), (1, .ref (ad a1))] []
  refine gz_iconst K (v := (0 : Int32)) dX10_numberOf_0 (by decide) ?_
  refine gz_istore_n K [(2, .int (0 : Int32)), (0, .ref (ad 43)), (1, .ref (ad a1))] dX10_numberOf_1 (by decide) rfl ?_
  refine gz_iconst K (v := (1 : Int32)) dX10_numberOf_2 (by decide) ?_
  refine gz_istore_n K [(3, .int (1 : Int32)), (2, .int (0 : Int32)), (0, .ref (ad 43)), (1, .ref (ad a1))] dX10_numberOf_3 (by decide) rfl ?_
  refine gz_sub [2, 3, 1, 0] rfl ?_
  have ll_4 : ∀ (n_4 : Nat) (y2 : Int32) (y3 : Int32) , L_X10_numberOf_4 σ a1 n1 post  n_4 y2 y3 → Gz p l e r_X10_numberOf s m args below meth c D ad ty 6 0 0 (Ez below D ad ty nI0 (fun r τ => σ = τ ∧ post r) (fun _ _ => False) args s 0 0) σ 4 [(0, .ref (ad 43)), (1, .ref (ad a1)), (2, .int y2), (3, .int y3)] [] := by
    intro n_4; induction n_4 with
    | zero => intro y2 y3 hp; exact False.elim hp
    | succ n_4 ih_4 =>
      intro y2 y3 hp
      have hp : B_X10_numberOf_4 σ a1 n1 post  (L_X10_numberOf_4 σ a1 n1 post  n_4) y2 y3 := hp
      unfold B_X10_numberOf_4 at hp
      refine gz_iload_n K dX10_numberOf_4 3 rfl ?_
      refine gz_aload_n K dX10_numberOf_5 0 rfl ?_
      refine gz_get K (v := .int (gz_i σ 43 1)) (by decide) (ce_43 _ _ _ _ _ _) rfl inz_X10 1 (by decide) zq5_32 rfl dX10_numberOf_6 ?_
      refine gz_icmp_gt K 75 dX10_numberOf_9 (by decide) (fun h => ?_) (fun h => ?_)
      · have hp := hp.1 h
        refine gz_iload_n K dX10_numberOf_75 2 rfl ?_
        exact gz_iret K hr ⟨rfl, hp⟩ dX10_numberOf_76 (Nat.le_of_ble_eq_true rfl) (Nat.le_of_ble_eq_true rfl)
      · have hp := hp.2 h
        refine gz_iconst K (v := (0 : Int32)) dX10_numberOf_12 (by decide) ?_
        refine gz_istore K [(4, .int (0 : Int32)), (0, .ref (ad 43)), (1, .ref (ad a1)), (2, .int y2), (3, .int y3)] dX10_numberOf_13 (by decide) rfl ?_
        refine gz_iload_n K dX10_numberOf_15 4 rfl ?_
        refine gz_iconst K (v := (1 : Int32)) dX10_numberOf_16 (by decide) ?_
        refine gz_iadd K dX10_numberOf_17 ?_
        refine gz_istore K [(5, .int (y3 + (1 : Int32))), (4, .int (0 : Int32)), (0, .ref (ad 43)), (1, .ref (ad a1)), (2, .int y2), (3, .int y3)] dX10_numberOf_18 (by decide) rfl ?_
        refine gz_sub [2, 3, 4, 5, 1, 0] rfl ?_
        have ll_20 : ∀ (n_20 : Nat) (y2 : Int32) (y3 : Int32) (y4 : Int32) (y5 : Int32) , L_X10_numberOf_20 σ a1 n1 post (L_X10_numberOf_4 σ a1 n1 post  n_4) n_20 y2 y3 y4 y5 → Gz p l e r_X10_numberOf s m args below meth c D ad ty 6 0 0 (Ez below D ad ty nI0 (fun r τ => σ = τ ∧ post r) (fun _ _ => False) args s 0 0) σ 20 [(0, .ref (ad 43)), (1, .ref (ad a1)), (2, .int y2), (3, .int y3), (4, .int y4), (5, .int y5)] [] := by
          intro n_20; induction n_20 with
          | zero => intro y2 y3 y4 y5 hp; exact False.elim hp
          | succ n_20 ih_20 =>
            intro y2 y3 y4 y5 hp
            have hp : B_X10_numberOf_20 σ a1 n1 post (L_X10_numberOf_4 σ a1 n1 post  n_4) (L_X10_numberOf_20 σ a1 n1 post (L_X10_numberOf_4 σ a1 n1 post  n_4) n_20) y2 y3 y4 y5 := hp
            unfold B_X10_numberOf_20 at hp
            have bb_46 : ∀ (y2 : Int32) (y3 : Int32) (y5 : Int32) (z0 : Int32) (z1 : Int32) , B_X10_numberOf_46 σ a1 n1 post (L_X10_numberOf_4 σ a1 n1 post  n_4) (L_X10_numberOf_20 σ a1 n1 post (L_X10_numberOf_4 σ a1 n1 post  n_4) n_20) y2 y3 y5 z0 z1 → Gz p l e r_X10_numberOf s m args below meth c D ad ty 6 0 0 (Ez below D ad ty nI0 (fun r τ => σ = τ ∧ post r) (fun _ _ => False) args s 0 0) σ 46 [(0, .ref (ad 43)), (1, .ref (ad a1)), (2, .int y2), (3, .int y3), (5, .int y5)] [.int z0, .int z1] := by
              intro y2 y3 y5 z0 z1 hp
              unfold B_X10_numberOf_46 at hp
              refine gz_iadd K dX10_numberOf_46 ?_
              refine gz_istore K [(4, .int (z1 + z0)), (0, .ref (ad 43)), (1, .ref (ad a1)), (2, .int y2), (3, .int y3), (5, .int y5)] dX10_numberOf_47 (by decide) rfl ?_
              refine gz_iinc K (v := (y5 + 1)) [(5, .int (y5 + 1)), (4, .int (z1 + z0)), (0, .ref (ad 43)), (1, .ref (ad a1)), (2, .int y2), (3, .int y3)] dX10_numberOf_49 5 rfl (by first | rfl | decide) (by decide) rfl ?_
              refine gz_goto K 20 dX10_numberOf_52 (by decide) ?_
              refine gz_sub [2, 3, 4, 5, 1, 0] rfl ?_
              exact ih_20 y2 y3 (z1 + z0) (y5 + 1)  hp
            refine gz_iload K dX10_numberOf_20 5 rfl ?_
            refine gz_aload_n K dX10_numberOf_22 0 rfl ?_
            refine gz_get K (v := .int (gz_i σ 43 1)) (by decide) (ce_43 _ _ _ _ _ _) rfl inz_X10 1 (by decide) zq5_32 rfl dX10_numberOf_23 ?_
            refine gz_icmp_gt K 55 dX10_numberOf_26 (by decide) (fun h => ?_) (fun h => ?_)
            · have hp := hp.1 h
              refine gz_iload_n K dX10_numberOf_55 2 rfl ?_
              refine gz_aload_n K dX10_numberOf_56 0 rfl ?_
              refine gz_get K (v := .int (gz_i σ 43 1)) (by decide) (ce_43 _ _ _ _ _ _) rfl inz_X10 1 (by decide) zq5_32 rfl dX10_numberOf_57 ?_
              refine gz_iload_n K dX10_numberOf_60 3 rfl ?_
              refine gz_isub K dX10_numberOf_61 ?_
              refine gz_iconst K (v := (1 : Int32)) dX10_numberOf_62 (by decide) ?_
              refine gz_iadd K dX10_numberOf_63 ?_
              refine gz_imul K dX10_numberOf_64 ?_
              refine gz_iload K dX10_numberOf_65 4 rfl ?_
              refine gz_iadd K dX10_numberOf_67 ?_
              refine gz_istore_n K [(2, .int ((y2 * (((gz_i σ 43 1) - y3) + (1 : Int32))) + y4)), (0, .ref (ad 43)), (1, .ref (ad a1)), (3, .int y3), (4, .int y4), (5, .int y5)] dX10_numberOf_68 (by decide) rfl ?_
              refine gz_iinc K (v := (y3 + 1)) [(3, .int (y3 + 1)), (2, .int ((y2 * (((gz_i σ 43 1) - y3) + (1 : Int32))) + y4)), (0, .ref (ad 43)), (1, .ref (ad a1)), (4, .int y4), (5, .int y5)] dX10_numberOf_69 3 rfl (by first | rfl | decide) (by decide) rfl ?_
              refine gz_goto K 4 dX10_numberOf_72 (by decide) ?_
              refine gz_sub [2, 3, 1, 0] rfl ?_
              exact ih_4 ((y2 * (((gz_i σ 43 1) - y3) + (1 : Int32))) + y4) (y3 + 1)  hp
            · have hp := hp.2 h
              refine gz_iload K dX10_numberOf_29 4 rfl ?_
              refine gz_aload_n K dX10_numberOf_31 1 rfl ?_
              refine gz_iload K dX10_numberOf_32 5 rfl ?_
              obtain ⟨h, hp⟩ := hp
              refine gz_iald K h1.1 (h1.2 _ _ _ _ _ _) h dX10_numberOf_34 ?_
              refine gz_aload_n K dX10_numberOf_35 1 rfl ?_
              refine gz_iload_n K dX10_numberOf_36 3 rfl ?_
              obtain ⟨h, hp⟩ := hp
              refine gz_iald K h1.1 (h1.2 _ _ _ _ _ _) h dX10_numberOf_37 ?_
              refine gz_icmp_ge K 45 dX10_numberOf_38 (by decide) (fun h => ?_) (fun h => ?_)
              · have hp := hp.1 h
                refine gz_iconst K (v := (0 : Int32)) dX10_numberOf_45 (by decide) ?_
                refine gz_sub [0, 1, 2, 3, 5] rfl ?_
                exact bb_46 y2 y3 y5 (0 : Int32) y4  hp
              · have hp := hp.2 h
                refine gz_iconst K (v := (1 : Int32)) dX10_numberOf_41 (by decide) ?_
                refine gz_goto K 46 dX10_numberOf_42 (by decide) ?_
                refine gz_sub [0, 1, 2, 3, 5] rfl ?_
                exact bb_46 y2 y3 y5 (1 : Int32) y4  hp
        obtain ⟨n, hp⟩ := hp
        exact ll_20 n y2 y3 (0 : Int32) (y3 + (1 : Int32))  hp
  obtain ⟨n, hp⟩ := hp
  exact ll_4 n (0 : Int32) (1 : Int32)  hp
set_option maxRecDepth 100000 in
set_option maxHeartbeats 4000000 in
theorem c_X10_packed {l : Launch} {D : va_G} {ad : Nat → Nat} {ty : Nat → ClassId} (hl : l.stackTraces = false) (hj : ∀ i j, i < 68 → j < 68 → ad i = ad j → i = j) {σ : Dz} {a1 : Nat} {n1 : Nat} (h1 : isA a1 n1) {post : Int32 → Prop} (hp : P_X10_packed σ a1 n1 post) : Mz l D ad ty yX10_packed cX10_packed 4 (some .int) r_X10_packed nI0 σ [.ref (ad 43), .ref (ad a1)] (fun r τ => σ = τ ∧ post r) (fun _ _ => False) := by
  refine mz_of (by decide) hl hj (Nat.le_of_ble_eq_true rfl) ?_
  intro p e s m args below meth c K hex hr
  unfold P_X10_packed at hp
  show Gz p l e r_X10_packed s m args below meth c D ad ty 4 0 0 (Ez below D ad ty nI0 (fun r τ => σ = τ ∧ post r) (fun _ _ => False) args s 0 0) σ 0 [(0, .ref (ad 43)), (1, .ref (ad a1))] []
  refine gz_iconst K (v := (0 : Int32)) dX10_packed_0 (by decide) ?_
  refine gz_istore_n K [(2, .int (0 : Int32)), (0, .ref (ad 43)), (1, .ref (ad a1))] dX10_packed_1 (by decide) rfl ?_
  refine gz_iconst K (v := (1 : Int32)) dX10_packed_2 (by decide) ?_
  refine gz_istore_n K [(3, .int (1 : Int32)), (2, .int (0 : Int32)), (0, .ref (ad 43)), (1, .ref (ad a1))] dX10_packed_3 (by decide) rfl ?_
  refine gz_sub [2, 3, 1, 0] rfl ?_
  have ll_4 : ∀ (n_4 : Nat) (y2 : Int32) (y3 : Int32) , L_X10_packed_4 σ a1 n1 post  n_4 y2 y3 → Gz p l e r_X10_packed s m args below meth c D ad ty 4 0 0 (Ez below D ad ty nI0 (fun r τ => σ = τ ∧ post r) (fun _ _ => False) args s 0 0) σ 4 [(0, .ref (ad 43)), (1, .ref (ad a1)), (2, .int y2), (3, .int y3)] [] := by
    intro n_4; induction n_4 with
    | zero => intro y2 y3 hp; exact False.elim hp
    | succ n_4 ih_4 =>
      intro y2 y3 hp
      have hp : B_X10_packed_4 σ a1 n1 post  (L_X10_packed_4 σ a1 n1 post  n_4) y2 y3 := hp
      unfold B_X10_packed_4 at hp
      refine gz_iload_n K dX10_packed_4 3 rfl ?_
      refine gz_aload_n K dX10_packed_5 0 rfl ?_
      refine gz_get K (v := .int (gz_i σ 43 1)) (by decide) (ce_43 _ _ _ _ _ _) rfl inz_X10 1 (by decide) zq5_32 rfl dX10_packed_6 ?_
      refine gz_icmp_gt K 28 dX10_packed_9 (by decide) (fun h => ?_) (fun h => ?_)
      · have hp := hp.1 h
        refine gz_iload_n K dX10_packed_28 2 rfl ?_
        exact gz_iret K hr ⟨rfl, hp⟩ dX10_packed_29 (Nat.le_of_ble_eq_true rfl) (Nat.le_of_ble_eq_true rfl)
      · have hp := hp.2 h
        refine gz_iload_n K dX10_packed_12 2 rfl ?_
        refine gz_aload_n K dX10_packed_13 1 rfl ?_
        refine gz_iload_n K dX10_packed_14 3 rfl ?_
        obtain ⟨h, hp⟩ := hp
        refine gz_iald K h1.1 (h1.2 _ _ _ _ _ _) h dX10_packed_15 ?_
        refine gz_iconst K (v := (3 : Int32)) dX10_packed_16 (by decide) ?_
        refine gz_iload_n K dX10_packed_17 3 rfl ?_
        refine gz_imul K dX10_packed_18 ?_
        refine gz_ishl K dX10_packed_19 ?_
        refine gz_ior K dX10_packed_20 ?_
        refine gz_istore_n K [(2, .int (y2 ||| ((gz_i σ a1 (y3).toNatClampNeg) <<< (((3 : Int32) * y3) &&& 31)))), (0, .ref (ad 43)), (1, .ref (ad a1)), (3, .int y3)] dX10_packed_21 (by decide) rfl ?_
        refine gz_iinc K (v := (y3 + 1)) [(3, .int (y3 + 1)), (2, .int (y2 ||| ((gz_i σ a1 (y3).toNatClampNeg) <<< (((3 : Int32) * y3) &&& 31)))), (0, .ref (ad 43)), (1, .ref (ad a1))] dX10_packed_22 3 rfl (by first | rfl | decide) (by decide) rfl ?_
        refine gz_goto K 4 dX10_packed_25 (by decide) ?_
        refine gz_sub [2, 3, 1, 0] rfl ?_
        exact ih_4 (y2 ||| ((gz_i σ a1 (y3).toNatClampNeg) <<< (((3 : Int32) * y3) &&& 31))) (y3 + 1)  hp
  obtain ⟨n, hp⟩ := hp
  exact ll_4 n (0 : Int32) (1 : Int32)  hp
set_option maxRecDepth 100000 in
set_option maxHeartbeats 4000000 in
theorem c_X10_unpacks {l : Launch} {D : va_G} {ad : Nat → Nat} {ty : Nat → ClassId} (hl : l.stackTraces = false) (hj : ∀ i j, i < 68 → j < 68 → ad i = ad j → i = j) {σ : Dz} {x1 : Int32} {post : Dz → Prop} (hp : P_X10_unpacks σ x1 post) : Mz l D ad ty yX10_unpacks cX10_unpacks 3 none r_X10_unpacks nV0 σ [.ref (ad 43), .int x1] (fun _ τ => post τ) (fun _ _ => False) := by
  refine mz_of (by decide) hl hj (Nat.le_of_ble_eq_true rfl) ?_
  intro p e s m args below meth c K hex hr
  unfold P_X10_unpacks at hp
  show Gz p l e r_X10_unpacks s m args below meth c D ad ty 3 0 0 (Ez below D ad ty nV0 (fun _ τ => post τ) (fun _ _ => False) args s 0 0) σ 0 [(0, .ref (ad 43)), (1, .int x1)] []
  refine gz_iconst K (v := (1 : Int32)) dX10_unpacks_0 (by decide) ?_
  refine gz_istore_n K [(2, .int (1 : Int32)), (0, .ref (ad 43)), (1, .int x1)] dX10_unpacks_1 (by decide) rfl ?_
  refine gz_sub [1, 2, 0] rfl ?_
  have ll_2 : ∀ (n_2 : Nat) (σ : Dz) (y1 : Int32) (y2 : Int32) , L_X10_unpacks_2 post  n_2 σ y1 y2 → Gz p l e r_X10_unpacks s m args below meth c D ad ty 3 0 0 (Ez below D ad ty nV0 (fun _ τ => post τ) (fun _ _ => False) args s 0 0) σ 2 [(0, .ref (ad 43)), (1, .int y1), (2, .int y2)] [] := by
    intro n_2; induction n_2 with
    | zero => intro σ y1 y2 hp; exact False.elim hp
    | succ n_2 ih_2 =>
      intro σ y1 y2 hp
      have hp : B_X10_unpacks_2 post  (L_X10_unpacks_2 post  n_2) σ y1 y2 := hp
      unfold B_X10_unpacks_2 at hp
      refine gz_iload_n K dX10_unpacks_2 2 rfl ?_
      refine gz_aload_n K dX10_unpacks_3 0 rfl ?_
      refine gz_get K (v := .int (gz_i σ 43 1)) (by decide) (ce_43 _ _ _ _ _ _) rfl inz_X10 1 (by decide) zq5_32 rfl dX10_unpacks_4 ?_
      refine gz_icmp_gt K 30 dX10_unpacks_7 (by decide) (fun h => ?_) (fun h => ?_)
      · have hp := hp.1 h
        exact gz_vret K hr hp dX10_unpacks_30 (Nat.le_of_ble_eq_true rfl) (Nat.le_of_ble_eq_true rfl)
      · have hp := hp.2 h
        refine gz_aload_n K dX10_unpacks_10 0 rfl ?_
        refine gz_get K (v := .ref (ad 63)) (by decide) (ce_43 _ _ _ _ _ _) rfl inz_X10 30 (by decide) zq5_61 rfl dX10_unpacks_11 ?_
        refine gz_iload_n K dX10_unpacks_14 2 rfl ?_
        refine gz_iload_n K dX10_unpacks_15 1 rfl ?_
        refine gz_iconst K (v := (3 : Int32)) dX10_unpacks_16 (by decide) ?_
        refine gz_iload_n K dX10_unpacks_17 2 rfl ?_
        refine gz_imul K dX10_unpacks_18 ?_
        refine gz_ishr K dX10_unpacks_19 ?_
        refine gz_bipush K (v := (7 : Int32)) dX10_unpacks_20 (by decide) ?_
        refine gz_iand K dX10_unpacks_22 ?_
        obtain ⟨h, hp⟩ := hp
        refine gz_iast K (x := ((y1 >>> (((3 : Int32) * y2) &&& 31)) &&& (7 : Int32))) (by decide) (ce_63 ad ty) h dX10_unpacks_23 ?_
        refine gz_iinc K (v := (y2 + 1)) [(2, .int (y2 + 1)), (0, .ref (ad 43)), (1, .int y1)] dX10_unpacks_24 2 rfl (by first | rfl | decide) (by decide) rfl ?_
        refine gz_goto K 2 dX10_unpacks_27 (by decide) ?_
        refine gz_sub [1, 2, 0] rfl ?_
        exact ih_2 (sz_i σ 63 (y2).toNatClampNeg ((y1 >>> (((3 : Int32) * y2) &&& 31)) &&& (7 : Int32))) y1 (y2 + 1)  hp
  obtain ⟨n, hp⟩ := hp
  exact ll_2 n σ x1 (1 : Int32)  hp
set_option maxRecDepth 100000 in
set_option maxHeartbeats 4000000 in
theorem c_X10_isLetter {l : Launch} {D : va_G} {ad : Nat → Nat} {ty : Nat → ClassId} (hl : l.stackTraces = false) (hj : ∀ i j, i < 68 → j < 68 → ad i = ad j → i = j) {σ : Dz} {x1 : Int32} {post : Int32 → Prop} (hp : P_X10_isLetter σ x1 post) : Mz l D ad ty yX10_isLetter cX10_isLetter 2 (some .boolean) r_X10_isLetter nI0 σ [.ref (ad 43), .int x1] (fun r τ => σ = τ ∧ post r) (fun _ _ => False) := by
  refine mz_of (by decide) hl hj (Nat.le_of_ble_eq_true rfl) ?_
  intro p e s m args below meth c K hex hr
  unfold P_X10_isLetter at hp
  show Gz p l e r_X10_isLetter s m args below meth c D ad ty 2 0 0 (Ez below D ad ty nI0 (fun r τ => σ = τ ∧ post r) (fun _ _ => False) args s 0 0) σ 0 [(0, .ref (ad 43)), (1, .int x1)] []
  refine gz_aload_n K dX10_isLetter_0 0 rfl ?_
  refine gz_get K (v := .ref (ad 45)) (by decide) (ce_43 _ _ _ _ _ _) rfl inz_X10 3 (by decide) zq5_34 rfl dX10_isLetter_1 ?_
  refine gz_iload_n K dX10_isLetter_4 1 rfl ?_
  refine gz_iconst K (v := (2 : Int32)) dX10_isLetter_5 (by decide) ?_
  refine gz_idiv K dX10_isLetter_6 (by decide) ?_
  obtain ⟨h, hp⟩ := hp
  refine gz_zald K (by decide) (ce_45 _ _ _ _ _ _) h dX10_isLetter_7 ?_
  exact gz_zret K hr (nB hp.1) ⟨rfl, hp.2⟩ dX10_isLetter_8 (Nat.le_of_ble_eq_true rfl) (Nat.le_of_ble_eq_true rfl)
set_option maxRecDepth 100000 in
set_option maxHeartbeats 4000000 in
theorem c_X10_moves {l : Launch} {D : va_G} {ad : Nat → Nat} {ty : Nat → ClassId} (hl : l.stackTraces = false) (hj : ∀ i j, i < 68 → j < 68 → ad i = ad j → i = j) {σ : Dz} {x1 : Int32} {post : Dz → Prop} (hp : P_X10_moves σ x1 post) : Mz l D ad ty yX10_moves cX10_moves 3 none r_X10_moves nV0 σ [.ref (ad 43), .int x1] (fun _ τ => post τ) (fun _ _ => False) := by
  refine mz_of (by decide) hl hj (Nat.le_of_ble_eq_true rfl) ?_
  intro p e s m args below meth c K hex hr
  unfold P_X10_moves at hp
  show Gz p l e r_X10_moves s m args below meth c D ad ty 3 0 0 (Ez below D ad ty nV0 (fun _ τ => post τ) (fun _ _ => False) args s 0 0) σ 0 [(0, .ref (ad 43)), (1, .int x1)] []
  refine gz_iconst K (v := (1 : Int32)) dX10_moves_0 (by decide) ?_
  refine gz_istore_n K [(2, .int (1 : Int32)), (0, .ref (ad 43)), (1, .int x1)] dX10_moves_1 (by decide) rfl ?_
  refine gz_sub [1, 2, 0] rfl ?_
  have ll_2 : ∀ (n_2 : Nat) (σ : Dz) (y1 : Int32) (y2 : Int32) , L_X10_moves_2 post  n_2 σ y1 y2 → Gz p l e r_X10_moves s m args below meth c D ad ty 3 0 0 (Ez below D ad ty nV0 (fun _ τ => post τ) (fun _ _ => False) args s 0 0) σ 2 [(0, .ref (ad 43)), (1, .int y1), (2, .int y2)] [] := by
    intro n_2; induction n_2 with
    | zero => intro σ y1 y2 hp; exact False.elim hp
    | succ n_2 ih_2 =>
      intro σ y1 y2 hp
      have hp : B_X10_moves_2 post  (L_X10_moves_2 post  n_2) σ y1 y2 := hp
      unfold B_X10_moves_2 at hp
      refine gz_iload_n K dX10_moves_2 2 rfl ?_
      refine gz_aload_n K dX10_moves_3 0 rfl ?_
      refine gz_get K (v := .int (gz_i σ 43 1)) (by decide) (ce_43 _ _ _ _ _ _) rfl inz_X10 1 (by decide) zq5_32 rfl dX10_moves_4 ?_
      refine gz_icmp_gt K 38 dX10_moves_7 (by decide) (fun h => ?_) (fun h => ?_)
      · have hp := hp.1 h
        exact gz_vret K hr hp dX10_moves_38 (Nat.le_of_ble_eq_true rfl) (Nat.le_of_ble_eq_true rfl)
      · have hp := hp.2 h
        refine gz_aload_n K dX10_moves_10 0 rfl ?_
        refine gz_get K (v := .ref (ad 64)) (by decide) (ce_43 _ _ _ _ _ _) rfl inz_X10 31 (by decide) zq5_62 rfl dX10_moves_11 ?_
        refine gz_aload_n K dX10_moves_14 0 rfl ?_
        refine gz_get K (v := .ref (ad 46)) (by decide) (ce_43 _ _ _ _ _ _) rfl inz_X10 4 (by decide) zq5_35 rfl dX10_moves_15 ?_
        refine gz_bipush K (v := (8 : Int32)) dX10_moves_18 (by decide) ?_
        refine gz_iload_n K dX10_moves_20 1 rfl ?_
        refine gz_imul K dX10_moves_21 ?_
        refine gz_iload_n K dX10_moves_22 2 rfl ?_
        refine gz_iadd K dX10_moves_23 ?_
        obtain ⟨h, hp⟩ := hp
        refine gz_iald K (by decide) (ce_46 _ _ _ _ _ _) h dX10_moves_24 ?_
        refine gz_aload_n K dX10_moves_25 0 rfl ?_
        refine gz_get K (v := .ref (ad 63)) (by decide) (ce_43 _ _ _ _ _ _) rfl inz_X10 30 (by decide) zq5_61 rfl dX10_moves_26 ?_
        refine gz_iload_n K dX10_moves_29 2 rfl ?_
        obtain ⟨h, hp⟩ := hp
        refine gz_iald K (by decide) (ce_63 _ _ _ _ _ _) h dX10_moves_30 ?_
        obtain ⟨h, hp⟩ := hp
        refine gz_iast K (x := (gz_i σ 63 (y2).toNatClampNeg)) (by decide) (ce_64 ad ty) h dX10_moves_31 ?_
        refine gz_iinc K (v := (y2 + 1)) [(2, .int (y2 + 1)), (0, .ref (ad 43)), (1, .int y1)] dX10_moves_32 2 rfl (by first | rfl | decide) (by decide) rfl ?_
        refine gz_goto K 2 dX10_moves_35 (by decide) ?_
        refine gz_sub [1, 2, 0] rfl ?_
        exact ih_2 (sz_i σ 64 ((gz_i σ 46 ((((8 : Int32) * y1) + y2)).toNatClampNeg)).toNatClampNeg (gz_i σ 63 (y2).toNatClampNeg)) y1 (y2 + 1)  hp
  obtain ⟨n, hp⟩ := hp
  exact ll_2 n σ x1 (1 : Int32)  hp
set_option maxRecDepth 100000 in
set_option maxHeartbeats 4000000 in
theorem c_X10_tellDepths {l : Launch} {D : va_G} {ad : Nat → Nat} {ty : Nat → ClassId} (hl : l.stackTraces = false) (hj : ∀ i j, i < 68 → j < 68 → ad i = ad j → i = j) {σ : Dz} {post : Dz → Prop} (hp : P_X10_tellDepths σ post) : Mz l D ad ty yX10_tellDepths cX10_tellDepths 5 none r_X10_tellDepths nV0 σ [.ref (ad 43)] (fun _ τ => post τ) (fun _ _ => False) := by
  refine mz_of (by decide) hl hj (Nat.le_of_ble_eq_true rfl) ?_
  intro p e s m args below meth c K hex hr
  unfold P_X10_tellDepths at hp
  show Gz p l e r_X10_tellDepths s m args below meth c D ad ty 5 0 0 (Ez below D ad ty nV0 (fun _ τ => post τ) (fun _ _ => False) args s 0 0) σ 0 [(0, .ref (ad 43))] []
  refine gz_aload_n K dX10_tellDepths_0 0 rfl ?_
  refine gz_get K (v := .int (gz_i σ 43 27)) (by decide) (ce_43 _ _ _ _ _ _) rfl inz_X10 27 (by decide) zq5_58 rfl dX10_tellDepths_1 ?_
  refine gz_if_eq K 8 dX10_tellDepths_4 (by decide) (fun h => ?_) (fun h => ?_)
  · have hp := hp.1 h
    refine gz_aload_n K dX10_tellDepths_8 0 rfl ?_
    refine gz_iconst K (v := (1 : Int32)) dX10_tellDepths_9 (by decide) ?_
    refine gz_put K (x := (1 : Int32)) (by decide) (ce_43 _ _ _ _ _ _) rfl inz_X10 tyX10 tyX10_ok nmX10 27 (by decide) zq5_58 rfl (tyX10_ok _ (by decide)) rfl rfl (Nat.le_of_ble_eq_true rfl) peX10_27 dX10_tellDepths_10 ?_
    refine gz_iconst K (v := (0 : Int32)) dX10_tellDepths_13 (by decide) ?_
    refine gz_istore_n K [(1, .int (0 : Int32)), (0, .ref (ad 43))] dX10_tellDepths_14 (by decide) rfl ?_
    refine gz_sub [1, 0] rfl ?_
    have ll_15 : ∀ (n_15 : Nat) (σ : Dz) (y1 : Int32) , L_X10_tellDepths_15 post  n_15 σ y1 → Gz p l e r_X10_tellDepths s m args below meth c D ad ty 5 0 0 (Ez below D ad ty nV0 (fun _ τ => post τ) (fun _ _ => False) args s 0 0) σ 15 [(0, .ref (ad 43)), (1, .int y1)] [] := by
      intro n_15; induction n_15 with
      | zero => intro σ y1 hp; exact False.elim hp
      | succ n_15 ih_15 =>
        intro σ y1 hp
        have hp : B_X10_tellDepths_15 post  (L_X10_tellDepths_15 post  n_15) σ y1 := hp
        unfold B_X10_tellDepths_15 at hp
        refine gz_iload_n K dX10_tellDepths_15 1 rfl ?_
        refine gz_sipush K (v := (5040 : Int32)) dX10_tellDepths_16 (by decide) ?_
        refine gz_icmp_ge K 42 dX10_tellDepths_19 (by decide) (fun h => ?_) (fun h => ?_)
        · have hp := hp.1 h
          refine gz_iconst K (v := (1 : Int32)) dX10_tellDepths_42 (by decide) ?_
          refine gz_istore_n K [(1, .int (1 : Int32)), (0, .ref (ad 43))] dX10_tellDepths_43 (by decide) rfl ?_
          refine gz_sub [1, 0] rfl ?_
          have ll_44 : ∀ (n_44 : Nat) (σ : Dz) (y1 : Int32) , L_X10_tellDepths_44 post  n_44 σ y1 → Gz p l e r_X10_tellDepths s m args below meth c D ad ty 5 0 0 (Ez below D ad ty nV0 (fun _ τ => post τ) (fun _ _ => False) args s 0 0) σ 44 [(0, .ref (ad 43)), (1, .int y1)] [] := by
            intro n_44; induction n_44 with
            | zero => intro σ y1 hp; exact False.elim hp
            | succ n_44 ih_44 =>
              intro σ y1 hp
              have hp : B_X10_tellDepths_44 post  (L_X10_tellDepths_44 post  n_44) σ y1 := hp
              unfold B_X10_tellDepths_44 at hp
              refine gz_iload_n K dX10_tellDepths_44 1 rfl ?_
              refine gz_aload_n K dX10_tellDepths_45 0 rfl ?_
              refine gz_get K (v := .int (gz_i σ 43 1)) (by decide) (ce_43 _ _ _ _ _ _) rfl inz_X10 1 (by decide) zq5_32 rfl dX10_tellDepths_46 ?_
              refine gz_icmp_gt K 65 dX10_tellDepths_49 (by decide) (fun h => ?_) (fun h => ?_)
              · have hp := hp.1 h
                refine gz_aload_n K dX10_tellDepths_65 0 rfl ?_
                refine gz_get K (v := .ref (ad 61)) (by decide) (ce_43 _ _ _ _ _ _) rfl inz_X10 28 (by decide) zq5_59 rfl dX10_tellDepths_66 ?_
                refine gz_aload_n K dX10_tellDepths_69 0 rfl ?_
                refine gz_aload_n K dX10_tellDepths_70 0 rfl ?_
                refine gz_get K (v := .ref (ad 63)) (by decide) (ce_43 _ _ _ _ _ _) rfl inz_X10 30 (by decide) zq5_61 rfl dX10_tellDepths_71 ?_
                refine gz_callV K hex (c_X10_numberOf K.2.2.2.2.2 K.2.2.1 ⟨by decide, fun ad ty => ce_63 ad ty⟩ hp) cf_X10_numberOf zq6_70 (by decide) (ce_43 _ _ _ _ _ _) rfl dX10_tellDepths_74 rfl rfl (Nat.le_of_ble_eq_true rfl) ⟨Nat.le_of_ble_eq_true rfl, Nat.le_of_ble_eq_true rfl⟩ ⟨Nat.le_of_ble_eq_true rfl, Nat.le_of_ble_eq_true rfl⟩ (Nat.le_of_ble_eq_true rfl) (Nat.le_of_ble_eq_true rfl) (fun _ _ h => h.elim) (fun r74 τ hp => ?_)
                obtain ⟨rfl, hp⟩ := hp
                refine gz_norm (st' := [.int r74, .ref (ad 61)]) (cells' := 0) (slots' := 0) rfl rfl rfl ?_
                refine gz_iconst K (v := (0 : Int32)) dX10_tellDepths_77 (by decide) ?_
                obtain ⟨h, hp⟩ := hp
                refine gz_iast K (x := (0 : Int32)) (by decide) (ce_61 ad ty) h dX10_tellDepths_78 ?_
                refine gz_aload_n K dX10_tellDepths_79 0 rfl ?_
                refine gz_get K (v := .ref (ad 62)) (by decide) (ce_43 _ _ _ _ _ _) rfl inz_X10 29 (by decide) zq5_60 rfl dX10_tellDepths_80 ?_
                refine gz_iconst K (v := (0 : Int32)) dX10_tellDepths_83 (by decide) ?_
                refine gz_aload_n K dX10_tellDepths_84 0 rfl ?_
                refine gz_aload_n K dX10_tellDepths_85 0 rfl ?_
                refine gz_get K (v := .ref (ad 63)) (by decide) (ce_43 _ _ _ _ _ _) rfl inz_X10 30 (by decide) zq5_61 rfl dX10_tellDepths_86 ?_
                refine gz_callV K hex (c_X10_packed K.2.2.2.2.2 K.2.2.1 ⟨by decide, fun ad ty => ce_63 ad ty⟩ hp) cf_X10_packed zq6_74 (by decide) (ce_43 _ _ _ _ _ _) rfl dX10_tellDepths_89 rfl rfl (Nat.le_of_ble_eq_true rfl) ⟨Nat.le_of_ble_eq_true rfl, Nat.le_of_ble_eq_true rfl⟩ ⟨Nat.le_of_ble_eq_true rfl, Nat.le_of_ble_eq_true rfl⟩ (Nat.le_of_ble_eq_true rfl) (Nat.le_of_ble_eq_true rfl) (fun _ _ h => h.elim) (fun r89 τ hp => ?_)
                obtain ⟨rfl, hp⟩ := hp
                refine gz_norm (st' := [.int r89, .int (0 : Int32), .ref (ad 62)]) (cells' := 0) (slots' := 0) rfl rfl rfl ?_
                refine gz_iast K (x := r89) (by decide) (ce_62 ad ty) (by unfold vp_in; decide) dX10_tellDepths_92 ?_
                refine gz_aload_n K dX10_tellDepths_93 0 rfl ?_
                refine gz_iconst K (v := (1 : Int32)) dX10_tellDepths_94 (by decide) ?_
                refine gz_put K (x := (1 : Int32)) (by decide) (ce_43 _ _ _ _ _ _) rfl inz_X10 tyX10 tyX10_ok nmX10 32 (by decide) zq5_63 rfl (tyX10_ok _ (by decide)) rfl rfl (Nat.le_of_ble_eq_true rfl) peX10_32 dX10_tellDepths_95 ?_
                refine gz_iconst K (v := (0 : Int32)) dX10_tellDepths_98 (by decide) ?_
                refine gz_istore_n K [(1, .int (0 : Int32)), (0, .ref (ad 43))] dX10_tellDepths_99 (by decide) rfl ?_
                refine gz_sub [1, 0] rfl ?_
                have ll_100 : ∀ (n_100 : Nat) (σ : Dz) (y1 : Int32) , L_X10_tellDepths_100 post  n_100 σ y1 → Gz p l e r_X10_tellDepths s m args below meth c D ad ty 5 0 0 (Ez below D ad ty nV0 (fun _ τ => post τ) (fun _ _ => False) args s 0 0) σ 100 [(0, .ref (ad 43)), (1, .int y1)] [] := by
                  intro n_100; induction n_100 with
                  | zero => intro σ y1 hp; exact False.elim hp
                  | succ n_100 ih_100 =>
                    intro σ y1 hp
                    have hp : B_X10_tellDepths_100 post  (L_X10_tellDepths_100 post  n_100) σ y1 := hp
                    unfold B_X10_tellDepths_100 at hp
                    refine gz_iload_n K dX10_tellDepths_100 1 rfl ?_
                    refine gz_aload_n K dX10_tellDepths_101 0 rfl ?_
                    refine gz_get K (v := .int (gz_i σ 43 32)) (by decide) (ce_43 _ _ _ _ _ _) rfl inz_X10 32 (by decide) zq5_63 rfl dX10_tellDepths_102 ?_
                    refine gz_icmp_ge K 238 dX10_tellDepths_105 (by decide) (fun h => ?_) (fun h => ?_)
                    · have hp := hp.1 h
                      exact gz_vret K hr hp dX10_tellDepths_238 (Nat.le_of_ble_eq_true rfl) (Nat.le_of_ble_eq_true rfl)
                    · have hp := hp.2 h
                      refine gz_aload_n K dX10_tellDepths_108 0 rfl ?_
                      refine gz_aload_n K dX10_tellDepths_109 0 rfl ?_
                      refine gz_get K (v := .ref (ad 62)) (by decide) (ce_43 _ _ _ _ _ _) rfl inz_X10 29 (by decide) zq5_60 rfl dX10_tellDepths_110 ?_
                      refine gz_iload_n K dX10_tellDepths_113 1 rfl ?_
                      obtain ⟨h, hp⟩ := hp
                      refine gz_iald K (by decide) (ce_62 _ _ _ _ _ _) h dX10_tellDepths_114 ?_
                      refine gz_callV K hex (c_X10_unpacks K.2.2.2.2.2 K.2.2.1 hp) cf_X10_unpacks zq6_78 (by decide) (ce_43 _ _ _ _ _ _) rfl dX10_tellDepths_115 rfl rfl (Nat.le_of_ble_eq_true rfl) ⟨Nat.le_of_ble_eq_true rfl, Nat.le_of_ble_eq_true rfl⟩ ⟨Nat.le_of_ble_eq_true rfl, Nat.le_of_ble_eq_true rfl⟩ (Nat.le_of_ble_eq_true rfl) (Nat.le_of_ble_eq_true rfl) (fun _ _ h => h.elim) (fun _ τ115 hp => ?_)
                      refine gz_norm (st' := []) (cells' := 0) (slots' := 0) rfl rfl rfl ?_
                      refine gz_aload_n K dX10_tellDepths_118 0 rfl ?_
                      refine gz_get K (v := .ref (ad 61)) (by decide) (ce_43 _ _ _ _ _ _) rfl inz_X10 28 (by decide) zq5_59 rfl dX10_tellDepths_119 ?_
                      refine gz_aload_n K dX10_tellDepths_122 0 rfl ?_
                      refine gz_aload_n K dX10_tellDepths_123 0 rfl ?_
                      refine gz_get K (v := .ref (ad 63)) (by decide) (ce_43 _ _ _ _ _ _) rfl inz_X10 30 (by decide) zq5_61 rfl dX10_tellDepths_124 ?_
                      refine gz_callV K hex (c_X10_numberOf K.2.2.2.2.2 K.2.2.1 ⟨by decide, fun ad ty => ce_63 ad ty⟩ hp) cf_X10_numberOf zq6_70 (by decide) (ce_43 _ _ _ _ _ _) rfl dX10_tellDepths_127 rfl rfl (Nat.le_of_ble_eq_true rfl) ⟨Nat.le_of_ble_eq_true rfl, Nat.le_of_ble_eq_true rfl⟩ ⟨Nat.le_of_ble_eq_true rfl, Nat.le_of_ble_eq_true rfl⟩ (Nat.le_of_ble_eq_true rfl) (Nat.le_of_ble_eq_true rfl) (fun _ _ h => h.elim) (fun r127 τ hp => ?_)
                      obtain ⟨rfl, hp⟩ := hp
                      refine gz_norm (st' := [.int r127, .ref (ad 61)]) (cells' := 0) (slots' := 0) rfl rfl rfl ?_
                      obtain ⟨h, hp⟩ := hp
                      refine gz_iald K (by decide) (ce_61 _ _ _ _ _ _) h dX10_tellDepths_130 ?_
                      refine gz_istore_n K [(2, .int (gz_i τ115 61 (r127).toNatClampNeg)), (0, .ref (ad 43)), (1, .int y1)] dX10_tellDepths_131 (by decide) rfl ?_
                      refine gz_aload_n K dX10_tellDepths_132 1 rfl ?_
                      refine gz_get K (v := .ref (ad 65)) (by decide) (ce_43 _ _ _ _ _ _) rfl inz_X10 34 (by decide) zq5_65 rfl dX10_tellDepths_133 ?_
                      refine gz_iload_n K dX10_tellDepths_136 0 rfl ?_
                      refine gz_dup2 K dX10_tellDepths_137 rfl rfl ?_
                      obtain ⟨h, hp⟩ := hp
                      refine gz_iald K (by decide) (ce_65 _ _ _ _ _ _) h dX10_tellDepths_138 ?_
                      refine gz_iconst K (v := (1 : Int32)) dX10_tellDepths_139 (by decide) ?_
                      refine gz_iadd K dX10_tellDepths_140 ?_
                      obtain ⟨h, hp⟩ := hp
                      refine gz_iast K (x := ((gz_i τ115 65 ((gz_i τ115 61 (r127).toNatClampNeg)).toNatClampNeg) + (1 : Int32))) (by decide) (ce_65 ad ty) h dX10_tellDepths_141 ?_
                      refine gz_aload_n K dX10_tellDepths_142 1 rfl ?_
                      refine gz_iload_n K dX10_tellDepths_143 0 rfl ?_
                      refine gz_put K (x := (gz_i τ115 61 (r127).toNatClampNeg)) (by decide) (ce_43 _ _ _ _ _ _) rfl inz_X10 tyX10 tyX10_ok nmX10 33 (by decide) zq5_64 rfl (tyX10_ok _ (by decide)) rfl rfl (Nat.le_of_ble_eq_true rfl) peX10_33 dX10_tellDepths_144 ?_
                      refine gz_iconst K (v := (0 : Int32)) dX10_tellDepths_147 (by decide) ?_
                      refine gz_istore_n K [(3, .int (0 : Int32)), (2, .int (gz_i τ115 61 (r127).toNatClampNeg)), (0, .ref (ad 43)), (1, .int y1)] dX10_tellDepths_148 (by decide) rfl ?_
                      refine gz_sub [2, 3, 1, 0] rfl ?_
                      have ll_149 : ∀ (n_149 : Nat) (σ : Dz) (y1 : Int32) (y2 : Int32) (y3 : Int32) , L_X10_tellDepths_149 post (L_X10_tellDepths_100 post  n_100) n_149 σ y1 y2 y3 → Gz p l e r_X10_tellDepths s m args below meth c D ad ty 5 0 0 (Ez below D ad ty nV0 (fun _ τ => post τ) (fun _ _ => False) args s 0 0) σ 149 [(0, .ref (ad 43)), (1, .int y1), (2, .int y2), (3, .int y3)] [] := by
                        intro n_149; induction n_149 with
                        | zero => intro σ y1 y2 y3 hp; exact False.elim hp
                        | succ n_149 ih_149 =>
                          intro σ y1 y2 y3 hp
                          have hp : B_X10_tellDepths_149 post (L_X10_tellDepths_100 post  n_100) (L_X10_tellDepths_149 post (L_X10_tellDepths_100 post  n_100) n_149) σ y1 y2 y3 := hp
                          unfold B_X10_tellDepths_149 at hp
                          have bb_226 : ∀ (σ : Dz) (y1 : Int32) (y2 : Int32) (y3 : Int32) , B_X10_tellDepths_226 post (L_X10_tellDepths_100 post  n_100) (L_X10_tellDepths_149 post (L_X10_tellDepths_100 post  n_100) n_149) σ y1 y2 y3 → Gz p l e r_X10_tellDepths s m args below meth c D ad ty 5 0 0 (Ez below D ad ty nV0 (fun _ τ => post τ) (fun _ _ => False) args s 0 0) σ 226 [(0, .ref (ad 43)), (1, .int y1), (2, .int y2), (3, .int y3)] [] := by
                            intro σ y1 y2 y3 hp
                            unfold B_X10_tellDepths_226 at hp
                            refine gz_iinc K (v := (y3 + 1)) [(3, .int (y3 + 1)), (0, .ref (ad 43)), (1, .int y1), (2, .int y2)] dX10_tellDepths_226 3 rfl (by first | rfl | decide) (by decide) rfl ?_
                            refine gz_goto K 149 dX10_tellDepths_229 (by decide) ?_
                            refine gz_sub [1, 2, 3, 0] rfl ?_
                            exact ih_149 σ y1 y2 (y3 + 1)  hp
                          refine gz_iload_n K dX10_tellDepths_149 3 rfl ?_
                          refine gz_bipush K (v := (10 : Int32)) dX10_tellDepths_150 (by decide) ?_
                          refine gz_icmp_ge K 232 dX10_tellDepths_152 (by decide) (fun h => ?_) (fun h => ?_)
                          · have hp := hp.1 h
                            refine gz_iinc K (v := (y1 + 1)) [(1, .int (y1 + 1)), (0, .ref (ad 43)), (2, .int y2), (3, .int y3)] dX10_tellDepths_232 1 rfl (by first | rfl | decide) (by decide) rfl ?_
                            refine gz_goto K 100 dX10_tellDepths_235 (by decide) ?_
                            refine gz_sub [1, 0] rfl ?_
                            exact ih_100 σ (y1 + 1)  hp
                          · have hp := hp.2 h
                            refine gz_aload_n K dX10_tellDepths_155 0 rfl ?_
                            refine gz_iload_n K dX10_tellDepths_156 3 rfl ?_
                            refine gz_callV K hex (c_X10_isLetter K.2.2.2.2.2 K.2.2.1 hp) cf_X10_isLetter zq6_82 (by decide) (ce_43 _ _ _ _ _ _) rfl dX10_tellDepths_157 rfl rfl (Nat.le_of_ble_eq_true rfl) ⟨Nat.le_of_ble_eq_true rfl, Nat.le_of_ble_eq_true rfl⟩ ⟨Nat.le_of_ble_eq_true rfl, Nat.le_of_ble_eq_true rfl⟩ (Nat.le_of_ble_eq_true rfl) (Nat.le_of_ble_eq_true rfl) (fun _ _ h => h.elim) (fun r157 τ hp => ?_)
                            obtain ⟨rfl, hp⟩ := hp
                            refine gz_norm (st' := [.int r157]) (cells' := 0) (slots' := 0) rfl rfl rfl ?_
                            refine gz_if_eq K 226 dX10_tellDepths_160 (by decide) (fun h => ?_) (fun h => ?_)
                            · have hp := hp.1 h
                              exact bb_226 σ y1 y2 y3  hp
                            · have hp := hp.2 h
                              refine gz_aload_n K dX10_tellDepths_163 0 rfl ?_
                              refine gz_iload_n K dX10_tellDepths_164 3 rfl ?_
                              refine gz_callV K hex (c_X10_moves K.2.2.2.2.2 K.2.2.1 hp) cf_X10_moves zq6_86 (by decide) (ce_43 _ _ _ _ _ _) rfl dX10_tellDepths_165 rfl rfl (Nat.le_of_ble_eq_true rfl) ⟨Nat.le_of_ble_eq_true rfl, Nat.le_of_ble_eq_true rfl⟩ ⟨Nat.le_of_ble_eq_true rfl, Nat.le_of_ble_eq_true rfl⟩ (Nat.le_of_ble_eq_true rfl) (Nat.le_of_ble_eq_true rfl) (fun _ _ h => h.elim) (fun _ τ165 hp => ?_)
                              refine gz_norm (st' := []) (cells' := 0) (slots' := 0) rfl rfl rfl ?_
                              refine gz_aload_n K dX10_tellDepths_168 0 rfl ?_
                              refine gz_aload_n K dX10_tellDepths_169 0 rfl ?_
                              refine gz_get K (v := .ref (ad 64)) (by decide) (ce_43 _ _ _ _ _ _) rfl inz_X10 31 (by decide) zq5_62 rfl dX10_tellDepths_170 ?_
                              refine gz_callV K hex (c_X10_numberOf K.2.2.2.2.2 K.2.2.1 ⟨by decide, fun ad ty => ce_64 ad ty⟩ hp) cf_X10_numberOf zq6_70 (by decide) (ce_43 _ _ _ _ _ _) rfl dX10_tellDepths_173 rfl rfl (Nat.le_of_ble_eq_true rfl) ⟨Nat.le_of_ble_eq_true rfl, Nat.le_of_ble_eq_true rfl⟩ ⟨Nat.le_of_ble_eq_true rfl, Nat.le_of_ble_eq_true rfl⟩ (Nat.le_of_ble_eq_true rfl) (Nat.le_of_ble_eq_true rfl) (fun _ _ h => h.elim) (fun r173 τ hp => ?_)
                              obtain ⟨rfl, hp⟩ := hp
                              refine gz_norm (st' := [.int r173]) (cells' := 0) (slots' := 0) rfl rfl rfl ?_
                              refine gz_istore K [(4, .int r173), (0, .ref (ad 43)), (1, .int y1), (2, .int y2), (3, .int y3)] dX10_tellDepths_176 (by decide) rfl ?_
                              refine gz_aload_n K dX10_tellDepths_178 1 rfl ?_
                              refine gz_get K (v := .ref (ad 61)) (by decide) (ce_43 _ _ _ _ _ _) rfl inz_X10 28 (by decide) zq5_59 rfl dX10_tellDepths_179 ?_
                              refine gz_iload K dX10_tellDepths_182 0 rfl ?_
                              obtain ⟨h, hp⟩ := hp
                              refine gz_iald K (by decide) (ce_61 _ _ _ _ _ _) h dX10_tellDepths_184 ?_
                              refine gz_iconst K (v := (-1 : Int32)) dX10_tellDepths_185 (by decide) ?_
                              refine gz_icmp_ne K 226 dX10_tellDepths_186 (by decide) (fun h => ?_) (fun h => ?_)
                              · have hp := hp.1 h
                                refine gz_sub [1, 2, 3, 4] rfl ?_
                                exact bb_226 τ165 y1 y2 y3  hp
                              · have hp := hp.2 h
                                refine gz_aload_n K dX10_tellDepths_189 1 rfl ?_
                                refine gz_get K (v := .ref (ad 61)) (by decide) (ce_43 _ _ _ _ _ _) rfl inz_X10 28 (by decide) zq5_59 rfl dX10_tellDepths_190 ?_
                                refine gz_iload K dX10_tellDepths_193 0 rfl ?_
                                refine gz_iload_n K dX10_tellDepths_195 3 rfl ?_
                                refine gz_iconst K (v := (1 : Int32)) dX10_tellDepths_196 (by decide) ?_
                                refine gz_iadd K dX10_tellDepths_197 ?_
                                obtain ⟨h, hp⟩ := hp
                                refine gz_iast K (x := (y2 + (1 : Int32))) (by decide) (ce_61 ad ty) h dX10_tellDepths_198 ?_
                                refine gz_aload_n K dX10_tellDepths_199 1 rfl ?_
                                refine gz_get K (v := .ref (ad 62)) (by decide) (ce_43 _ _ _ _ _ _) rfl inz_X10 29 (by decide) zq5_60 rfl dX10_tellDepths_200 ?_
                                refine gz_aload_n K dX10_tellDepths_203 1 rfl ?_
                                refine gz_get K (v := .int (gz_i (sz_i τ165 61 (r173).toNatClampNeg (y2 + (1 : Int32))) 43 32)) (by decide) (ce_43 _ _ _ _ _ _) rfl inz_X10 32 (by decide) zq5_63 rfl dX10_tellDepths_204 ?_
                                refine gz_aload_n K dX10_tellDepths_207 1 rfl ?_
                                refine gz_aload_n K dX10_tellDepths_208 1 rfl ?_
                                refine gz_get K (v := .ref (ad 64)) (by decide) (ce_43 _ _ _ _ _ _) rfl inz_X10 31 (by decide) zq5_62 rfl dX10_tellDepths_209 ?_
                                refine gz_callV K hex (c_X10_packed K.2.2.2.2.2 K.2.2.1 ⟨by decide, fun ad ty => ce_64 ad ty⟩ hp) cf_X10_packed zq6_74 (by decide) (ce_43 _ _ _ _ _ _) rfl dX10_tellDepths_212 rfl rfl (Nat.le_of_ble_eq_true rfl) ⟨Nat.le_of_ble_eq_true rfl, Nat.le_of_ble_eq_true rfl⟩ ⟨Nat.le_of_ble_eq_true rfl, Nat.le_of_ble_eq_true rfl⟩ (Nat.le_of_ble_eq_true rfl) (Nat.le_of_ble_eq_true rfl) (fun _ _ h => h.elim) (fun r212 τ hp => ?_)
                                obtain ⟨rfl, hp⟩ := hp
                                refine gz_norm (st' := [.int r212, .int (gz_i (sz_i τ165 61 (r173).toNatClampNeg (y2 + (1 : Int32))) 43 32), .ref (ad 62)]) (cells' := 0) (slots' := 0) rfl rfl rfl ?_
                                obtain ⟨h, hp⟩ := hp
                                refine gz_iast K (x := r212) (by decide) (ce_62 ad ty) h dX10_tellDepths_215 ?_
                                refine gz_aload_n K dX10_tellDepths_216 1 rfl ?_
                                refine gz_dup K dX10_tellDepths_217 rfl ?_
                                refine gz_get K (v := .int (gz_i (sz_i (sz_i τ165 61 (r173).toNatClampNeg (y2 + (1 : Int32))) 62 ((gz_i (sz_i τ165 61 (r173).toNatClampNeg (y2 + (1 : Int32))) 43 32)).toNatClampNeg r212) 43 32)) (by decide) (ce_43 _ _ _ _ _ _) rfl inz_X10 32 (by decide) zq5_63 rfl dX10_tellDepths_218 ?_
                                refine gz_iconst K (v := (1 : Int32)) dX10_tellDepths_221 (by decide) ?_
                                refine gz_iadd K dX10_tellDepths_222 ?_
                                refine gz_put K (x := ((gz_i (sz_i (sz_i τ165 61 (r173).toNatClampNeg (y2 + (1 : Int32))) 62 ((gz_i (sz_i τ165 61 (r173).toNatClampNeg (y2 + (1 : Int32))) 43 32)).toNatClampNeg r212) 43 32) + (1 : Int32))) (by decide) (ce_43 _ _ _ _ _ _) rfl inz_X10 tyX10 tyX10_ok nmX10 32 (by decide) zq5_63 rfl (tyX10_ok _ (by decide)) rfl rfl (Nat.le_of_ble_eq_true rfl) peX10_32 dX10_tellDepths_223 ?_
                                refine gz_sub [1, 2, 3, 4] rfl ?_
                                exact bb_226 (sz_i (sz_i (sz_i τ165 61 (r173).toNatClampNeg (y2 + (1 : Int32))) 62 ((gz_i (sz_i τ165 61 (r173).toNatClampNeg (y2 + (1 : Int32))) 43 32)).toNatClampNeg r212) 43 32 ((gz_i (sz_i (sz_i τ165 61 (r173).toNatClampNeg (y2 + (1 : Int32))) 62 ((gz_i (sz_i τ165 61 (r173).toNatClampNeg (y2 + (1 : Int32))) 43 32)).toNatClampNeg r212) 43 32) + (1 : Int32))) y1 y2 y3  hp
                      obtain ⟨n, hp⟩ := hp
                      exact ll_149 n (sz_i (sz_i τ115 65 ((gz_i τ115 61 (r127).toNatClampNeg)).toNatClampNeg ((gz_i τ115 65 ((gz_i τ115 61 (r127).toNatClampNeg)).toNatClampNeg) + (1 : Int32))) 43 33 (gz_i τ115 61 (r127).toNatClampNeg)) y1 (gz_i τ115 61 (r127).toNatClampNeg) (0 : Int32)  hp
                obtain ⟨n, hp⟩ := hp
                exact ll_100 n (sz_i (sz_i (sz_i σ 61 (r74).toNatClampNeg (0 : Int32)) 62 ((0 : Int32)).toNatClampNeg r89) 43 32 (1 : Int32)) (0 : Int32)  hp
              · have hp := hp.2 h
                refine gz_aload_n K dX10_tellDepths_52 0 rfl ?_
                refine gz_get K (v := .ref (ad 63)) (by decide) (ce_43 _ _ _ _ _ _) rfl inz_X10 30 (by decide) zq5_61 rfl dX10_tellDepths_53 ?_
                refine gz_iload_n K dX10_tellDepths_56 1 rfl ?_
                refine gz_iload_n K dX10_tellDepths_57 1 rfl ?_
                obtain ⟨h, hp⟩ := hp
                refine gz_iast K (x := y1) (by decide) (ce_63 ad ty) h dX10_tellDepths_58 ?_
                refine gz_iinc K (v := (y1 + 1)) [(1, .int (y1 + 1)), (0, .ref (ad 43))] dX10_tellDepths_59 1 rfl (by first | rfl | decide) (by decide) rfl ?_
                refine gz_goto K 44 dX10_tellDepths_62 (by decide) ?_
                refine gz_sub [1, 0] rfl ?_
                exact ih_44 (sz_i σ 63 (y1).toNatClampNeg y1) (y1 + 1)  hp
          obtain ⟨n, hp⟩ := hp
          exact ll_44 n σ (1 : Int32)  hp
        · have hp := hp.2 h
          refine gz_aload_n K dX10_tellDepths_22 0 rfl ?_
          refine gz_get K (v := .ref (ad 61)) (by decide) (ce_43 _ _ _ _ _ _) rfl inz_X10 28 (by decide) zq5_59 rfl dX10_tellDepths_23 ?_
          refine gz_iload_n K dX10_tellDepths_26 1 rfl ?_
          refine gz_iconst K (v := (-1 : Int32)) dX10_tellDepths_27 (by decide) ?_
          obtain ⟨h, hp⟩ := hp
          refine gz_iast K (x := (-1 : Int32)) (by decide) (ce_61 ad ty) h dX10_tellDepths_28 ?_
          refine gz_aload_n K dX10_tellDepths_29 0 rfl ?_
          refine gz_get K (v := .ref (ad 65)) (by decide) (ce_43 _ _ _ _ _ _) rfl inz_X10 34 (by decide) zq5_65 rfl dX10_tellDepths_30 ?_
          refine gz_iload_n K dX10_tellDepths_33 1 rfl ?_
          refine gz_iconst K (v := (0 : Int32)) dX10_tellDepths_34 (by decide) ?_
          obtain ⟨h, hp⟩ := hp
          refine gz_iast K (x := (0 : Int32)) (by decide) (ce_65 ad ty) h dX10_tellDepths_35 ?_
          refine gz_iinc K (v := (y1 + 1)) [(1, .int (y1 + 1)), (0, .ref (ad 43))] dX10_tellDepths_36 1 rfl (by first | rfl | decide) (by decide) rfl ?_
          refine gz_goto K 15 dX10_tellDepths_39 (by decide) ?_
          refine gz_sub [1, 0] rfl ?_
          exact ih_15 (sz_i (sz_i σ 61 (y1).toNatClampNeg (-1 : Int32)) 65 (y1).toNatClampNeg (0 : Int32)) (y1 + 1)  hp
    obtain ⟨n, hp⟩ := hp
    exact ll_15 n (sz_i σ 43 27 (1 : Int32)) (0 : Int32)  hp
  · have hp := hp.2 h
    exact gz_vret K hr hp dX10_tellDepths_7 (Nat.le_of_ble_eq_true rfl) (Nat.le_of_ble_eq_true rfl)
set_option maxRecDepth 100000 in
set_option maxHeartbeats 4000000 in
theorem c_X10_depthNow {l : Launch} {D : va_G} {ad : Nat → Nat} {ty : Nat → ClassId} (hl : l.stackTraces = false) (hj : ∀ i j, i < 68 → j < 68 → ad i = ad j → i = j) {σ : Dz} {post : Int32 → Dz → Prop} (hp : P_X10_depthNow σ post) : Mz l D ad ty yX10_depthNow cX10_depthNow 1 (some .int) r_X10_depthNow nI0 σ [.ref (ad 43)] post (fun _ _ => False) := by
  refine mz_of (by decide) hl hj (Nat.le_of_ble_eq_true rfl) ?_
  intro p e s m args below meth c K hex hr
  unfold P_X10_depthNow at hp
  show Gz p l e r_X10_depthNow s m args below meth c D ad ty 1 0 0 (Ez below D ad ty nI0 post (fun _ _ => False) args s 0 0) σ 0 [(0, .ref (ad 43))] []
  refine gz_aload_n K dX10_depthNow_0 0 rfl ?_
  refine gz_callV K hex (c_X10_tellDepths K.2.2.2.2.2 K.2.2.1 hp) cf_X10_tellDepths zq6_66 (by decide) (ce_43 _ _ _ _ _ _) rfl dX10_depthNow_1 rfl rfl (Nat.le_of_ble_eq_true rfl) ⟨Nat.le_of_ble_eq_true rfl, Nat.le_of_ble_eq_true rfl⟩ ⟨Nat.le_of_ble_eq_true rfl, Nat.le_of_ble_eq_true rfl⟩ (Nat.le_of_ble_eq_true rfl) (Nat.le_of_ble_eq_true rfl) (fun _ _ h => h.elim) (fun _ τ1 hp => ?_)
  refine gz_norm (st' := []) (cells' := 0) (slots' := 0) rfl rfl rfl ?_
  refine gz_aload_n K dX10_depthNow_4 0 rfl ?_
  refine gz_get K (v := .ref (ad 61)) (by decide) (ce_43 _ _ _ _ _ _) rfl inz_X10 28 (by decide) zq5_59 rfl dX10_depthNow_5 ?_
  refine gz_aload_n K dX10_depthNow_8 0 rfl ?_
  refine gz_aload_n K dX10_depthNow_9 0 rfl ?_
  refine gz_get K (v := .ref (ad 44)) (by decide) (ce_43 _ _ _ _ _ _) rfl inz_X10 2 (by decide) zq5_33 rfl dX10_depthNow_10 ?_
  refine gz_callV K hex (c_X10_numberOf K.2.2.2.2.2 K.2.2.1 ⟨by decide, fun ad ty => ce_44 ad ty⟩ hp) cf_X10_numberOf zq6_70 (by decide) (ce_43 _ _ _ _ _ _) rfl dX10_depthNow_13 rfl rfl (Nat.le_of_ble_eq_true rfl) ⟨Nat.le_of_ble_eq_true rfl, Nat.le_of_ble_eq_true rfl⟩ ⟨Nat.le_of_ble_eq_true rfl, Nat.le_of_ble_eq_true rfl⟩ (Nat.le_of_ble_eq_true rfl) (Nat.le_of_ble_eq_true rfl) (fun _ _ h => h.elim) (fun r13 τ hp => ?_)
  obtain ⟨rfl, hp⟩ := hp
  refine gz_norm (st' := [.int r13, .ref (ad 61)]) (cells' := 0) (slots' := 0) rfl rfl rfl ?_
  obtain ⟨h, hp⟩ := hp
  refine gz_iald K (by decide) (ce_61 _ _ _ _ _ _) h dX10_depthNow_16 ?_
  exact gz_iret K hr hp dX10_depthNow_17 (Nat.le_of_ble_eq_true rfl) (Nat.le_of_ble_eq_true rfl)
set_option maxRecDepth 100000 in
set_option maxHeartbeats 4000000 in
theorem c_X10_depth {l : Launch} {D : va_G} {ad : Nat → Nat} {ty : Nat → ClassId} (hl : l.stackTraces = false) (hj : ∀ i j, i < 68 → j < 68 → ad i = ad j → i = j) {σ : Dz} {post : Int32 → Dz → Prop} (hp : P_X10_depth σ post) : Mz l D ad ty yX10_depth cX10_depth 2 (some .int) r_X10_depth nI0 σ [.ref (ad 43)] post (fun _ _ => False) := by
  refine mz_of (by decide) hl hj (Nat.le_of_ble_eq_true rfl) ?_
  intro p e s m args below meth c K hex hr
  unfold P_X10_depth at hp
  show Gz p l e r_X10_depth s m args below meth c D ad ty 2 0 0 (Ez below D ad ty nI0 post (fun _ _ => False) args s 0 0) σ 0 [(0, .ref (ad 43))] []
  refine gz_aload_n K dX10_depth_0 0 rfl ?_
  refine gz_callV K hex (c_X10_depthNow K.2.2.2.2.2 K.2.2.1 hp) cf_X10_depthNow zq6_62 (by decide) (ce_43 _ _ _ _ _ _) rfl dX10_depth_1 rfl rfl (Nat.le_of_ble_eq_true rfl) ⟨Nat.le_of_ble_eq_true rfl, Nat.le_of_ble_eq_true rfl⟩ ⟨Nat.le_of_ble_eq_true rfl, Nat.le_of_ble_eq_true rfl⟩ (Nat.le_of_ble_eq_true rfl) (Nat.le_of_ble_eq_true rfl) (fun _ _ h => h.elim) (fun r1 τ1 hp => ?_)
  refine gz_norm (st' := [.int r1]) (cells' := 0) (slots' := 0) rfl rfl rfl ?_
  refine gz_istore_n K [(1, .int r1), (0, .ref (ad 43))] dX10_depth_4 (by decide) rfl ?_
  refine gz_iload_n K dX10_depth_5 0 rfl ?_
  refine gz_iconst K (v := (-1 : Int32)) dX10_depth_6 (by decide) ?_
  refine gz_icmp_ne K 18 dX10_depth_7 (by decide) (fun h => ?_) (fun h => ?_)
  · have hp := hp.1 h
    refine gz_aload_n K dX10_depth_18 1 rfl ?_
    refine gz_iload_n K dX10_depth_19 0 rfl ?_
    refine gz_callV K hex (c_X10_done K.2.2.2.2.2 K.2.2.1 hp) cf_X10_done zq5_153 (by decide) (ce_43 _ _ _ _ _ _) rfl dX10_depth_20 rfl rfl (Nat.le_of_ble_eq_true rfl) ⟨Nat.le_of_ble_eq_true rfl, Nat.le_of_ble_eq_true rfl⟩ ⟨Nat.le_of_ble_eq_true rfl, Nat.le_of_ble_eq_true rfl⟩ (Nat.le_of_ble_eq_true rfl) (Nat.le_of_ble_eq_true rfl) (fun _ _ h => h.elim) (fun r20 τ20 hp => ?_)
    refine gz_norm (st' := [.int r20]) (cells' := 0) (slots' := 0) rfl rfl rfl ?_
    exact gz_iret K hr hp dX10_depth_23 (Nat.le_of_ble_eq_true rfl) (Nat.le_of_ble_eq_true rfl)
  · have hp := hp.2 h
    refine gz_aload_n K dX10_depth_10 1 rfl ?_
    refine gz_iconst K (v := (1 : Int32)) dX10_depth_11 (by decide) ?_
    refine gz_callV K hex (c_X10_fails K.2.2.2.2.2 K.2.2.1 hp) cf_X10_fails zq5_149 (by decide) (ce_43 _ _ _ _ _ _) rfl dX10_depth_12 rfl rfl (Nat.le_of_ble_eq_true rfl) ⟨Nat.le_of_ble_eq_true rfl, Nat.le_of_ble_eq_true rfl⟩ ⟨Nat.le_of_ble_eq_true rfl, Nat.le_of_ble_eq_true rfl⟩ (Nat.le_of_ble_eq_true rfl) (Nat.le_of_ble_eq_true rfl) (fun _ _ h => h.elim) (fun r12 τ12 hp => ?_)
    refine gz_norm (st' := [.int r12]) (cells' := 0) (slots' := 0) rfl rfl rfl ?_
    refine gz_goto K 23 dX10_depth_15 (by decide) ?_
    exact gz_iret K hr hp dX10_depth_23 (Nat.le_of_ble_eq_true rfl) (Nat.le_of_ble_eq_true rfl)
set_option maxRecDepth 100000 in
set_option maxHeartbeats 4000000 in
theorem c_X10_solve {l : Launch} {D : va_G} {ad : Nat → Nat} {ty : Nat → ClassId} (hl : l.stackTraces = false) (hj : ∀ i j, i < 68 → j < 68 → ad i = ad j → i = j) {σ : Dz} {x1 : Int32} {post : Int32 → Dz → Prop} (hp : P_X10_solve σ x1 post) : Mz l D ad ty yX10_solve cX10_solve 6 (some .int) r_X10_solve nI0 σ [.ref (ad 43), .int x1] post (fun _ _ => False) := by
  refine mz_of (by decide) hl hj (Nat.le_of_ble_eq_true rfl) ?_
  intro p e s m args below meth c K hex hr
  unfold P_X10_solve at hp
  show Gz p l e r_X10_solve s m args below meth c D ad ty 6 0 0 (Ez below D ad ty nI0 post (fun _ _ => False) args s 0 0) σ 0 [(0, .ref (ad 43)), (1, .int x1)] []
  refine gz_iload_n K dX10_solve_0 1 rfl ?_
  refine gz_callS K hex (c_X10_isSlot K.2.2.2.2.2 K.2.2.1 hp) cf_X10_isSlot zq5_189 dX10_solve_1 rfl rfl (Nat.le_of_ble_eq_true rfl) ⟨Nat.le_of_ble_eq_true rfl, Nat.le_of_ble_eq_true rfl⟩ ⟨Nat.le_of_ble_eq_true rfl, Nat.le_of_ble_eq_true rfl⟩ (Nat.le_of_ble_eq_true rfl) (Nat.le_of_ble_eq_true rfl) (fun _ _ h => h.elim) (fun r1 τ hp => ?_)
  obtain ⟨rfl, hp⟩ := hp
  refine gz_norm (st' := [.int r1]) (cells' := 0) (slots' := 0) rfl rfl rfl ?_
  refine gz_if_ne K 13 dX10_solve_4 (by decide) (fun h => ?_) (fun h => ?_)
  · have hp := hp.1 h
    refine gz_aload_n K dX10_solve_13 0 rfl ?_
    refine gz_callV K hex (c_X10_depthNow K.2.2.2.2.2 K.2.2.1 hp) cf_X10_depthNow zq6_62 (by decide) (ce_43 _ _ _ _ _ _) rfl dX10_solve_14 rfl rfl (Nat.le_of_ble_eq_true rfl) ⟨Nat.le_of_ble_eq_true rfl, Nat.le_of_ble_eq_true rfl⟩ ⟨Nat.le_of_ble_eq_true rfl, Nat.le_of_ble_eq_true rfl⟩ (Nat.le_of_ble_eq_true rfl) (Nat.le_of_ble_eq_true rfl) (fun _ _ h => h.elim) (fun r14 τ14 hp => ?_)
    refine gz_norm (st' := [.int r14]) (cells' := 0) (slots' := 0) rfl rfl rfl ?_
    refine gz_istore_n K [(2, .int r14), (0, .ref (ad 43)), (1, .int x1)] dX10_solve_17 (by decide) rfl ?_
    refine gz_iload_n K dX10_solve_18 0 rfl ?_
    refine gz_iconst K (v := (-1 : Int32)) dX10_solve_19 (by decide) ?_
    refine gz_icmp_ne K 29 dX10_solve_20 (by decide) (fun h => ?_) (fun h => ?_)
    · have hp := hp.1 h
      refine gz_aload_n K dX10_solve_29 1 rfl ?_
      refine gz_callV K hex (c_X10_clears K.2.2.2.2.2 K.2.2.1 hp) cf_X10_clears zq5_192 (by decide) (ce_43 _ _ _ _ _ _) rfl dX10_solve_30 rfl rfl (Nat.le_of_ble_eq_true rfl) ⟨Nat.le_of_ble_eq_true rfl, Nat.le_of_ble_eq_true rfl⟩ ⟨Nat.le_of_ble_eq_true rfl, Nat.le_of_ble_eq_true rfl⟩ (Nat.le_of_ble_eq_true rfl) (Nat.le_of_ble_eq_true rfl) (fun _ _ h => h.elim) (fun _ τ30 hp => ?_)
      refine gz_norm (st' := []) (cells' := 0) (slots' := 0) rfl rfl rfl ?_
      refine gz_iconst K (v := (1 : Int32)) dX10_solve_33 (by decide) ?_
      refine gz_istore_n K [(3, .int (1 : Int32)), (2, .int r14), (0, .ref (ad 43)), (1, .int x1)] dX10_solve_34 (by decide) rfl ?_
      refine gz_sub [2, 3, 1, 0] rfl ?_
      have ll_35 : ∀ (n_35 : Nat) (σ : Dz) (y1 : Int32) (y2 : Int32) (y3 : Int32) , L_X10_solve_35 post  n_35 σ y1 y2 y3 → Gz p l e r_X10_solve s m args below meth c D ad ty 6 0 0 (Ez below D ad ty nI0 post (fun _ _ => False) args s 0 0) σ 35 [(0, .ref (ad 43)), (1, .int y1), (2, .int y2), (3, .int y3)] [] := by
        intro n_35; induction n_35 with
        | zero => intro σ y1 y2 y3 hp; exact False.elim hp
        | succ n_35 ih_35 =>
          intro σ y1 y2 y3 hp
          have hp : B_X10_solve_35 post  (L_X10_solve_35 post  n_35) σ y1 y2 y3 := hp
          unfold B_X10_solve_35 at hp
          refine gz_iload_n K dX10_solve_35 3 rfl ?_
          refine gz_aload_n K dX10_solve_36 0 rfl ?_
          refine gz_get K (v := .int (gz_i σ 43 1)) (by decide) (ce_43 _ _ _ _ _ _) rfl inz_X10 1 (by decide) zq5_32 rfl dX10_solve_37 ?_
          refine gz_icmp_gt K 61 dX10_solve_40 (by decide) (fun h => ?_) (fun h => ?_)
          · have hp := hp.1 h
            refine gz_sub [0, 1, 2] rfl ?_
            have ll_61 : ∀ (n_61 : Nat) (σ : Dz) (y1 : Int32) (y2 : Int32) , L_X10_solve_61 post  n_61 σ y1 y2 → Gz p l e r_X10_solve s m args below meth c D ad ty 6 0 0 (Ez below D ad ty nI0 post (fun _ _ => False) args s 0 0) σ 61 [(0, .ref (ad 43)), (1, .int y1), (2, .int y2)] [] := by
              intro n_61; induction n_61 with
              | zero => intro σ y1 y2 hp; exact False.elim hp
              | succ n_61 ih_61 =>
                intro σ y1 y2 hp
                have hp : B_X10_solve_61 post  (L_X10_solve_61 post  n_61) σ y1 y2 := hp
                unfold B_X10_solve_61 at hp
                refine gz_iload_n K dX10_solve_61 2 rfl ?_
                refine gz_if_le K 173 dX10_solve_62 (by decide) (fun h => ?_) (fun h => ?_)
                · have hp := hp.1 h
                  refine gz_aload_n K dX10_solve_173 0 rfl ?_
                  refine gz_iload_n K dX10_solve_174 1 rfl ?_
                  refine gz_callV K hex (c_X10_keeps K.2.2.2.2.2 K.2.2.1 hp) cf_X10_keeps zq5_218 (by decide) (ce_43 _ _ _ _ _ _) rfl dX10_solve_175 rfl rfl (Nat.le_of_ble_eq_true rfl) ⟨Nat.le_of_ble_eq_true rfl, Nat.le_of_ble_eq_true rfl⟩ ⟨Nat.le_of_ble_eq_true rfl, Nat.le_of_ble_eq_true rfl⟩ (Nat.le_of_ble_eq_true rfl) (Nat.le_of_ble_eq_true rfl) (fun _ _ h => h.elim) (fun r175 τ175 hp => ?_)
                  refine gz_norm (st' := [.int r175]) (cells' := 0) (slots' := 0) rfl rfl rfl ?_
                  exact gz_iret K hr hp dX10_solve_178 (Nat.le_of_ble_eq_true rfl) (Nat.le_of_ble_eq_true rfl)
                · have hp := hp.2 h
                  refine gz_iconst K (v := (0 : Int32)) dX10_solve_65 (by decide) ?_
                  refine gz_istore_n K [(3, .int (0 : Int32)), (0, .ref (ad 43)), (1, .int y1), (2, .int y2)] dX10_solve_66 (by decide) rfl ?_
                  refine gz_iconst K (v := (0 : Int32)) dX10_solve_67 (by decide) ?_
                  refine gz_istore K [(4, .int (0 : Int32)), (3, .int (0 : Int32)), (0, .ref (ad 43)), (1, .int y1), (2, .int y2)] dX10_solve_68 (by decide) rfl ?_
                  refine gz_sub [2, 3, 4, 1, 0] rfl ?_
                  have ll_70 : ∀ (n_70 : Nat) (σ : Dz) (y1 : Int32) (y2 : Int32) (y3 : Int32) (y4 : Int32) , L_X10_solve_70 post (L_X10_solve_61 post  n_61) n_70 σ y1 y2 y3 y4 → Gz p l e r_X10_solve s m args below meth c D ad ty 6 0 0 (Ez below D ad ty nI0 post (fun _ _ => False) args s 0 0) σ 70 [(0, .ref (ad 43)), (1, .int y1), (2, .int y2), (3, .int y3), (4, .int y4)] [] := by
                    intro n_70; induction n_70 with
                    | zero => intro σ y1 y2 y3 y4 hp; exact False.elim hp
                    | succ n_70 ih_70 =>
                      intro σ y1 y2 y3 y4 hp
                      have hp : B_X10_solve_70 post (L_X10_solve_61 post  n_61) (L_X10_solve_70 post (L_X10_solve_61 post  n_61) n_70) σ y1 y2 y3 y4 := hp
                      unfold B_X10_solve_70 at hp
                      have bb_125 : ∀ (σ : Dz) (y1 : Int32) (y2 : Int32) (y4 : Int32) (z0 : Int32) (z1 : Int32) , B_X10_solve_125 post (L_X10_solve_61 post  n_61) (L_X10_solve_70 post (L_X10_solve_61 post  n_61) n_70) σ y1 y2 y4 z0 z1 → Gz p l e r_X10_solve s m args below meth c D ad ty 6 0 0 (Ez below D ad ty nI0 post (fun _ _ => False) args s 0 0) σ 125 [(0, .ref (ad 43)), (1, .int y1), (2, .int y2), (4, .int y4)] [.int z0, .int z1] := by
                        intro σ y1 y2 y4 z0 z1 hp
                        unfold B_X10_solve_125 at hp
                        refine gz_iadd K dX10_solve_125 ?_
                        refine gz_istore_n K [(3, .int (z1 + z0)), (0, .ref (ad 43)), (1, .int y1), (2, .int y2), (4, .int y4)] dX10_solve_126 (by decide) rfl ?_
                        refine gz_goto K 70 dX10_solve_127 (by decide) ?_
                        refine gz_sub [1, 2, 3, 0, 4] rfl ?_
                        exact ih_70 σ y1 y2 (z1 + z0) y4  hp
                      have bb_114 : ∀ (σ : Dz) (y1 : Int32) (y2 : Int32) (y3 : Int32) (y4 : Int32) , B_X10_solve_114 post (L_X10_solve_61 post  n_61) (L_X10_solve_70 post (L_X10_solve_61 post  n_61) n_70) σ y1 y2 y3 y4 → Gz p l e r_X10_solve s m args below meth c D ad ty 6 0 0 (Ez below D ad ty nI0 post (fun _ _ => False) args s 0 0) σ 114 [(0, .ref (ad 43)), (1, .int y1), (2, .int y2), (3, .int y3), (4, .int y4)] [] := by
                        intro σ y1 y2 y3 y4 hp
                        unfold B_X10_solve_114 at hp
                        refine gz_iload_n K dX10_solve_114 3 rfl ?_
                        refine gz_iload K dX10_solve_115 4 rfl ?_
                        refine gz_if_eq K 124 dX10_solve_117 (by decide) (fun h => ?_) (fun h => ?_)
                        · have hp := hp.1 h
                          refine gz_iconst K (v := (1 : Int32)) dX10_solve_124 (by decide) ?_
                          refine gz_sub [0, 1, 2, 4] rfl ?_
                          exact bb_125 σ y1 y2 y4 (1 : Int32) y3  hp
                        · have hp := hp.2 h
                          refine gz_iconst K (v := (0 : Int32)) dX10_solve_120 (by decide) ?_
                          refine gz_goto K 125 dX10_solve_121 (by decide) ?_
                          refine gz_sub [0, 1, 2, 4] rfl ?_
                          exact bb_125 σ y1 y2 y4 (0 : Int32) y3  hp
                      have bb_112 : ∀ (σ : Dz) (y1 : Int32) (y2 : Int32) (y3 : Int32) (z0 : Int32) , B_X10_solve_112 post (L_X10_solve_61 post  n_61) (L_X10_solve_70 post (L_X10_solve_61 post  n_61) n_70) σ y1 y2 y3 z0 → Gz p l e r_X10_solve s m args below meth c D ad ty 6 0 0 (Ez below D ad ty nI0 post (fun _ _ => False) args s 0 0) σ 112 [(0, .ref (ad 43)), (1, .int y1), (2, .int y2), (3, .int y3)] [.int z0] := by
                        intro σ y1 y2 y3 z0 hp
                        unfold B_X10_solve_112 at hp
                        refine gz_istore K [(4, .int z0), (0, .ref (ad 43)), (1, .int y1), (2, .int y2), (3, .int y3)] dX10_solve_112 (by decide) rfl ?_
                        refine gz_sub [1, 2, 3, 4, 0] rfl ?_
                        exact bb_114 σ y1 y2 y3 z0  hp
                      refine gz_iload K dX10_solve_70 4 rfl ?_
                      refine gz_if_ne K 130 dX10_solve_72 (by decide) (fun h => ?_) (fun h => ?_)
                      · have hp := hp.1 h
                        refine gz_aload_n K dX10_solve_130 0 rfl ?_
                        refine gz_iload_n K dX10_solve_131 3 rfl ?_
                        refine gz_callV K hex (c_X10_comes K.2.2.2.2.2 K.2.2.1 hp) cf_X10_comes zq5_202 (by decide) (ce_43 _ _ _ _ _ _) rfl dX10_solve_132 rfl rfl (Nat.le_of_ble_eq_true rfl) ⟨Nat.le_of_ble_eq_true rfl, Nat.le_of_ble_eq_true rfl⟩ ⟨Nat.le_of_ble_eq_true rfl, Nat.le_of_ble_eq_true rfl⟩ (Nat.le_of_ble_eq_true rfl) (Nat.le_of_ble_eq_true rfl) (fun _ _ h => h.elim) (fun _ τ132 hp => ?_)
                        refine gz_norm (st' := []) (cells' := 0) (slots' := 0) rfl rfl rfl ?_
                        refine gz_iconst K (v := (1 : Int32)) dX10_solve_135 (by decide) ?_
                        refine gz_istore K [(5, .int (1 : Int32)), (0, .ref (ad 43)), (1, .int y1), (2, .int y2), (3, .int y3), (4, .int y4)] dX10_solve_136 (by decide) rfl ?_
                        refine gz_sub [1, 2, 3, 0] rfl ?_
                        have ll_138 : ∀ (n_138 : Nat) (σ : Dz) (y1 : Int32) (y2 : Int32) (y5 : Int32) , L_X10_solve_138 post (L_X10_solve_61 post  n_61) n_138 σ y1 y2 y5 → Gz p l e r_X10_solve s m args below meth c D ad ty 6 0 0 (Ez below D ad ty nI0 post (fun _ _ => False) args s 0 0) σ 138 [(0, .ref (ad 43)), (1, .int y1), (2, .int y2), (5, .int y5)] [] := by
                          intro n_138; induction n_138 with
                          | zero => intro σ y1 y2 y5 hp; exact False.elim hp
                          | succ n_138 ih_138 =>
                            intro σ y1 y2 y5 hp
                            have hp : B_X10_solve_138 post (L_X10_solve_61 post  n_61) (L_X10_solve_138 post (L_X10_solve_61 post  n_61) n_138) σ y1 y2 y5 := hp
                            unfold B_X10_solve_138 at hp
                            refine gz_iload K dX10_solve_138 3 rfl ?_
                            refine gz_aload_n K dX10_solve_140 0 rfl ?_
                            refine gz_get K (v := .int (gz_i σ 43 1)) (by decide) (ce_43 _ _ _ _ _ _) rfl inz_X10 1 (by decide) zq5_32 rfl dX10_solve_141 ?_
                            refine gz_icmp_gt K 167 dX10_solve_144 (by decide) (fun h => ?_) (fun h => ?_)
                            · have hp := hp.1 h
                              refine gz_iinc K (v := (y2 + (-1))) [(2, .int (y2 + (-1))), (0, .ref (ad 43)), (1, .int y1), (5, .int y5)] dX10_solve_167 2 rfl (by first | rfl | decide) (by decide) rfl ?_
                              refine gz_goto K 61 dX10_solve_170 (by decide) ?_
                              refine gz_sub [1, 2, 0] rfl ?_
                              exact ih_61 σ y1 (y2 + (-1))  hp
                            · have hp := hp.2 h
                              refine gz_aload_n K dX10_solve_147 0 rfl ?_
                              refine gz_get K (v := .ref (ad 63)) (by decide) (ce_43 _ _ _ _ _ _) rfl inz_X10 30 (by decide) zq5_61 rfl dX10_solve_148 ?_
                              refine gz_iload K dX10_solve_151 3 rfl ?_
                              refine gz_aload_n K dX10_solve_153 0 rfl ?_
                              refine gz_get K (v := .ref (ad 64)) (by decide) (ce_43 _ _ _ _ _ _) rfl inz_X10 31 (by decide) zq5_62 rfl dX10_solve_154 ?_
                              refine gz_iload K dX10_solve_157 3 rfl ?_
                              obtain ⟨h, hp⟩ := hp
                              refine gz_iald K (by decide) (ce_64 _ _ _ _ _ _) h dX10_solve_159 ?_
                              obtain ⟨h, hp⟩ := hp
                              refine gz_iast K (x := (gz_i σ 64 (y5).toNatClampNeg)) (by decide) (ce_63 ad ty) h dX10_solve_160 ?_
                              refine gz_iinc K (v := (y5 + 1)) [(5, .int (y5 + 1)), (0, .ref (ad 43)), (1, .int y1), (2, .int y2)] dX10_solve_161 3 rfl (by first | rfl | decide) (by decide) rfl ?_
                              refine gz_goto K 138 dX10_solve_164 (by decide) ?_
                              refine gz_sub [1, 2, 3, 0] rfl ?_
                              exact ih_138 (sz_i σ 63 (y5).toNatClampNeg (gz_i σ 64 (y5).toNatClampNeg)) y1 y2 (y5 + 1)  hp
                        obtain ⟨n, hp⟩ := hp
                        exact ll_138 n τ132 y1 y2 (1 : Int32)  hp
                      · have hp := hp.2 h
                        refine gz_aload_n K dX10_solve_75 0 rfl ?_
                        refine gz_iload_n K dX10_solve_76 3 rfl ?_
                        refine gz_callV K hex (c_X10_isLetter K.2.2.2.2.2 K.2.2.1 hp) cf_X10_isLetter zq6_82 (by decide) (ce_43 _ _ _ _ _ _) rfl dX10_solve_77 rfl rfl (Nat.le_of_ble_eq_true rfl) ⟨Nat.le_of_ble_eq_true rfl, Nat.le_of_ble_eq_true rfl⟩ ⟨Nat.le_of_ble_eq_true rfl, Nat.le_of_ble_eq_true rfl⟩ (Nat.le_of_ble_eq_true rfl) (Nat.le_of_ble_eq_true rfl) (fun _ _ h => h.elim) (fun r77 τ hp => ?_)
                        obtain ⟨rfl, hp⟩ := hp
                        refine gz_norm (st' := [.int r77]) (cells' := 0) (slots' := 0) rfl rfl rfl ?_
                        refine gz_if_eq K 114 dX10_solve_80 (by decide) (fun h => ?_) (fun h => ?_)
                        · have hp := hp.1 h
                          exact bb_114 σ y1 y2 y3 y4  hp
                        · have hp := hp.2 h
                          refine gz_aload_n K dX10_solve_83 0 rfl ?_
                          refine gz_iload_n K dX10_solve_84 3 rfl ?_
                          refine gz_callV K hex (c_X10_moves K.2.2.2.2.2 K.2.2.1 hp) cf_X10_moves zq6_86 (by decide) (ce_43 _ _ _ _ _ _) rfl dX10_solve_85 rfl rfl (Nat.le_of_ble_eq_true rfl) ⟨Nat.le_of_ble_eq_true rfl, Nat.le_of_ble_eq_true rfl⟩ ⟨Nat.le_of_ble_eq_true rfl, Nat.le_of_ble_eq_true rfl⟩ (Nat.le_of_ble_eq_true rfl) (Nat.le_of_ble_eq_true rfl) (fun _ _ h => h.elim) (fun _ τ85 hp => ?_)
                          refine gz_norm (st' := []) (cells' := 0) (slots' := 0) rfl rfl rfl ?_
                          refine gz_aload_n K dX10_solve_88 0 rfl ?_
                          refine gz_get K (v := .ref (ad 61)) (by decide) (ce_43 _ _ _ _ _ _) rfl inz_X10 28 (by decide) zq5_59 rfl dX10_solve_89 ?_
                          refine gz_aload_n K dX10_solve_92 0 rfl ?_
                          refine gz_aload_n K dX10_solve_93 0 rfl ?_
                          refine gz_get K (v := .ref (ad 64)) (by decide) (ce_43 _ _ _ _ _ _) rfl inz_X10 31 (by decide) zq5_62 rfl dX10_solve_94 ?_
                          refine gz_callV K hex (c_X10_numberOf K.2.2.2.2.2 K.2.2.1 ⟨by decide, fun ad ty => ce_64 ad ty⟩ hp) cf_X10_numberOf zq6_70 (by decide) (ce_43 _ _ _ _ _ _) rfl dX10_solve_97 rfl rfl (Nat.le_of_ble_eq_true rfl) ⟨Nat.le_of_ble_eq_true rfl, Nat.le_of_ble_eq_true rfl⟩ ⟨Nat.le_of_ble_eq_true rfl, Nat.le_of_ble_eq_true rfl⟩ (Nat.le_of_ble_eq_true rfl) (Nat.le_of_ble_eq_true rfl) (fun _ _ h => h.elim) (fun r97 τ hp => ?_)
                          obtain ⟨rfl, hp⟩ := hp
                          refine gz_norm (st' := [.int r97, .ref (ad 61)]) (cells' := 0) (slots' := 0) rfl rfl rfl ?_
                          obtain ⟨h, hp⟩ := hp
                          refine gz_iald K (by decide) (ce_61 _ _ _ _ _ _) h dX10_solve_100 ?_
                          refine gz_iload_n K dX10_solve_101 2 rfl ?_
                          refine gz_iconst K (v := (1 : Int32)) dX10_solve_102 (by decide) ?_
                          refine gz_isub K dX10_solve_103 ?_
                          refine gz_icmp_ne K 111 dX10_solve_104 (by decide) (fun h => ?_) (fun h => ?_)
                          · have hp := hp.1 h
                            refine gz_iconst K (v := (0 : Int32)) dX10_solve_111 (by decide) ?_
                            refine gz_sub [0, 1, 2, 3] rfl ?_
                            exact bb_112 τ85 y1 y2 y3 (0 : Int32)  hp
                          · have hp := hp.2 h
                            refine gz_iconst K (v := (1 : Int32)) dX10_solve_107 (by decide) ?_
                            refine gz_goto K 112 dX10_solve_108 (by decide) ?_
                            refine gz_sub [0, 1, 2, 3] rfl ?_
                            exact bb_112 τ85 y1 y2 y3 (1 : Int32)  hp
                  obtain ⟨n, hp⟩ := hp
                  exact ll_70 n σ y1 y2 (0 : Int32) (0 : Int32)  hp
            obtain ⟨n, hp⟩ := hp
            exact ll_61 n σ y1 y2  hp
          · have hp := hp.2 h
            refine gz_aload_n K dX10_solve_43 0 rfl ?_
            refine gz_get K (v := .ref (ad 63)) (by decide) (ce_43 _ _ _ _ _ _) rfl inz_X10 30 (by decide) zq5_61 rfl dX10_solve_44 ?_
            refine gz_iload_n K dX10_solve_47 3 rfl ?_
            refine gz_aload_n K dX10_solve_48 0 rfl ?_
            refine gz_get K (v := .ref (ad 44)) (by decide) (ce_43 _ _ _ _ _ _) rfl inz_X10 2 (by decide) zq5_33 rfl dX10_solve_49 ?_
            refine gz_iload_n K dX10_solve_52 3 rfl ?_
            obtain ⟨h, hp⟩ := hp
            refine gz_iald K (by decide) (ce_44 _ _ _ _ _ _) h dX10_solve_53 ?_
            obtain ⟨h, hp⟩ := hp
            refine gz_iast K (x := (gz_i σ 44 (y3).toNatClampNeg)) (by decide) (ce_63 ad ty) h dX10_solve_54 ?_
            refine gz_iinc K (v := (y3 + 1)) [(3, .int (y3 + 1)), (0, .ref (ad 43)), (1, .int y1), (2, .int y2)] dX10_solve_55 3 rfl (by first | rfl | decide) (by decide) rfl ?_
            refine gz_goto K 35 dX10_solve_58 (by decide) ?_
            refine gz_sub [1, 2, 3, 0] rfl ?_
            exact ih_35 (sz_i σ 63 (y3).toNatClampNeg (gz_i σ 44 (y3).toNatClampNeg)) y1 y2 (y3 + 1)  hp
      obtain ⟨n, hp⟩ := hp
      exact ll_35 n τ30 x1 r14 (1 : Int32)  hp
    · have hp := hp.2 h
      refine gz_aload_n K dX10_solve_23 1 rfl ?_
      refine gz_iconst K (v := (2 : Int32)) dX10_solve_24 (by decide) ?_
      refine gz_callV K hex (c_X10_fails K.2.2.2.2.2 K.2.2.1 hp) cf_X10_fails zq5_149 (by decide) (ce_43 _ _ _ _ _ _) rfl dX10_solve_25 rfl rfl (Nat.le_of_ble_eq_true rfl) ⟨Nat.le_of_ble_eq_true rfl, Nat.le_of_ble_eq_true rfl⟩ ⟨Nat.le_of_ble_eq_true rfl, Nat.le_of_ble_eq_true rfl⟩ (Nat.le_of_ble_eq_true rfl) (Nat.le_of_ble_eq_true rfl) (fun _ _ h => h.elim) (fun r25 τ25 hp => ?_)
      refine gz_norm (st' := [.int r25]) (cells' := 0) (slots' := 0) rfl rfl rfl ?_
      exact gz_iret K hr hp dX10_solve_28 (Nat.le_of_ble_eq_true rfl) (Nat.le_of_ble_eq_true rfl)
  · have hp := hp.2 h
    refine gz_aload_n K dX10_solve_7 0 rfl ?_
    refine gz_iconst K (v := (1 : Int32)) dX10_solve_8 (by decide) ?_
    refine gz_callV K hex (c_X10_fails K.2.2.2.2.2 K.2.2.1 hp) cf_X10_fails zq5_149 (by decide) (ce_43 _ _ _ _ _ _) rfl dX10_solve_9 rfl rfl (Nat.le_of_ble_eq_true rfl) ⟨Nat.le_of_ble_eq_true rfl, Nat.le_of_ble_eq_true rfl⟩ ⟨Nat.le_of_ble_eq_true rfl, Nat.le_of_ble_eq_true rfl⟩ (Nat.le_of_ble_eq_true rfl) (Nat.le_of_ble_eq_true rfl) (fun _ _ h => h.elim) (fun r9 τ9 hp => ?_)
    refine gz_norm (st' := [.int r9]) (cells' := 0) (slots' := 0) rfl rfl rfl ?_
    exact gz_iret K hr hp dX10_solve_12 (Nat.le_of_ble_eq_true rfl) (Nat.le_of_ble_eq_true rfl)
set_option maxRecDepth 100000 in
set_option maxHeartbeats 4000000 in
theorem c_X10_countAt {l : Launch} {D : va_G} {ad : Nat → Nat} {ty : Nat → ClassId} (hl : l.stackTraces = false) (hj : ∀ i j, i < 68 → j < 68 → ad i = ad j → i = j) {σ : Dz} {x1 : Int32} {post : Int32 → Dz → Prop} (hp : P_X10_countAt σ x1 post) : Mz l D ad ty yX10_countAt cX10_countAt 2 (some .int) r_X10_countAt nI0 σ [.ref (ad 43), .int x1] post (fun _ _ => False) := by
  refine mz_of (by decide) hl hj (Nat.le_of_ble_eq_true rfl) ?_
  intro p e s m args below meth c K hex hr
  unfold P_X10_countAt at hp
  show Gz p l e r_X10_countAt s m args below meth c D ad ty 2 0 0 (Ez below D ad ty nI0 post (fun _ _ => False) args s 0 0) σ 0 [(0, .ref (ad 43)), (1, .int x1)] []
  refine gz_aload_n K dX10_countAt_0 0 rfl ?_
  refine gz_callV K hex (c_X10_tellDepths K.2.2.2.2.2 K.2.2.1 hp) cf_X10_tellDepths zq6_66 (by decide) (ce_43 _ _ _ _ _ _) rfl dX10_countAt_1 rfl rfl (Nat.le_of_ble_eq_true rfl) ⟨Nat.le_of_ble_eq_true rfl, Nat.le_of_ble_eq_true rfl⟩ ⟨Nat.le_of_ble_eq_true rfl, Nat.le_of_ble_eq_true rfl⟩ (Nat.le_of_ble_eq_true rfl) (Nat.le_of_ble_eq_true rfl) (fun _ _ h => h.elim) (fun _ τ1 hp => ?_)
  refine gz_norm (st' := []) (cells' := 0) (slots' := 0) rfl rfl rfl ?_
  refine gz_aload_n K dX10_countAt_4 0 rfl ?_
  refine gz_iload_n K dX10_countAt_5 1 rfl ?_
  refine gz_iconst K (v := (0 : Int32)) dX10_countAt_6 (by decide) ?_
  refine gz_sipush K (v := (5039 : Int32)) dX10_countAt_7 (by decide) ?_
  refine gz_callS K hex (c_X10_in K.2.2.2.2.2 K.2.2.1 hp) cf_X10_in zq5_146 dX10_countAt_10 rfl rfl (Nat.le_of_ble_eq_true rfl) ⟨Nat.le_of_ble_eq_true rfl, Nat.le_of_ble_eq_true rfl⟩ ⟨Nat.le_of_ble_eq_true rfl, Nat.le_of_ble_eq_true rfl⟩ (Nat.le_of_ble_eq_true rfl) (Nat.le_of_ble_eq_true rfl) (fun _ _ h => h.elim) (fun r10 τ hp => ?_)
  obtain ⟨rfl, hp⟩ := hp
  refine gz_norm (st' := [.int r10, .ref (ad 43)]) (cells' := 0) (slots' := 0) rfl rfl rfl ?_
  refine gz_if_eq K 25 dX10_countAt_13 (by decide) (fun h => ?_) (fun h => ?_)
  · have hp := hp.1 h
    refine gz_iconst K (v := (0 : Int32)) dX10_countAt_25 (by decide) ?_
    refine gz_callV K hex (c_X10_done K.2.2.2.2.2 K.2.2.1 hp) cf_X10_done zq5_153 (by decide) (ce_43 _ _ _ _ _ _) rfl dX10_countAt_26 rfl rfl (Nat.le_of_ble_eq_true rfl) ⟨Nat.le_of_ble_eq_true rfl, Nat.le_of_ble_eq_true rfl⟩ ⟨Nat.le_of_ble_eq_true rfl, Nat.le_of_ble_eq_true rfl⟩ (Nat.le_of_ble_eq_true rfl) (Nat.le_of_ble_eq_true rfl) (fun _ _ h => h.elim) (fun r26 τ26 hp => ?_)
    refine gz_norm (st' := [.int r26]) (cells' := 0) (slots' := 0) rfl rfl rfl ?_
    exact gz_iret K hr hp dX10_countAt_29 (Nat.le_of_ble_eq_true rfl) (Nat.le_of_ble_eq_true rfl)
  · have hp := hp.2 h
    refine gz_aload_n K dX10_countAt_16 0 rfl ?_
    refine gz_get K (v := .ref (ad 65)) (by decide) (ce_43 _ _ _ _ _ _) rfl inz_X10 34 (by decide) zq5_65 rfl dX10_countAt_17 ?_
    refine gz_iload_n K dX10_countAt_20 1 rfl ?_
    obtain ⟨h, hp⟩ := hp
    refine gz_iald K (by decide) (ce_65 _ _ _ _ _ _) h dX10_countAt_21 ?_
    refine gz_goto K 26 dX10_countAt_22 (by decide) ?_
    refine gz_callV K hex (c_X10_done K.2.2.2.2.2 K.2.2.1 hp) cf_X10_done zq5_153 (by decide) (ce_43 _ _ _ _ _ _) rfl dX10_countAt_26 rfl rfl (Nat.le_of_ble_eq_true rfl) ⟨Nat.le_of_ble_eq_true rfl, Nat.le_of_ble_eq_true rfl⟩ ⟨Nat.le_of_ble_eq_true rfl, Nat.le_of_ble_eq_true rfl⟩ (Nat.le_of_ble_eq_true rfl) (Nat.le_of_ble_eq_true rfl) (fun _ _ h => h.elim) (fun r26 τ26 hp => ?_)
    refine gz_norm (st' := [.int r26]) (cells' := 0) (slots' := 0) rfl rfl rfl ?_
    exact gz_iret K hr hp dX10_countAt_29 (Nat.le_of_ble_eq_true rfl) (Nat.le_of_ble_eq_true rfl)
set_option maxRecDepth 100000 in
set_option maxHeartbeats 4000000 in
theorem c_X10_reachable {l : Launch} {D : va_G} {ad : Nat → Nat} {ty : Nat → ClassId} (hl : l.stackTraces = false) (hj : ∀ i j, i < 68 → j < 68 → ad i = ad j → i = j) {σ : Dz} {post : Int32 → Dz → Prop} (hp : P_X10_reachable σ post) : Mz l D ad ty yX10_reachable cX10_reachable 1 (some .int) r_X10_reachable nI0 σ [.ref (ad 43)] post (fun _ _ => False) := by
  refine mz_of (by decide) hl hj (Nat.le_of_ble_eq_true rfl) ?_
  intro p e s m args below meth c K hex hr
  unfold P_X10_reachable at hp
  show Gz p l e r_X10_reachable s m args below meth c D ad ty 1 0 0 (Ez below D ad ty nI0 post (fun _ _ => False) args s 0 0) σ 0 [(0, .ref (ad 43))] []
  refine gz_aload_n K dX10_reachable_0 0 rfl ?_
  refine gz_callV K hex (c_X10_tellDepths K.2.2.2.2.2 K.2.2.1 hp) cf_X10_tellDepths zq6_66 (by decide) (ce_43 _ _ _ _ _ _) rfl dX10_reachable_1 rfl rfl (Nat.le_of_ble_eq_true rfl) ⟨Nat.le_of_ble_eq_true rfl, Nat.le_of_ble_eq_true rfl⟩ ⟨Nat.le_of_ble_eq_true rfl, Nat.le_of_ble_eq_true rfl⟩ (Nat.le_of_ble_eq_true rfl) (Nat.le_of_ble_eq_true rfl) (fun _ _ h => h.elim) (fun _ τ1 hp => ?_)
  refine gz_norm (st' := []) (cells' := 0) (slots' := 0) rfl rfl rfl ?_
  refine gz_aload_n K dX10_reachable_4 0 rfl ?_
  refine gz_aload_n K dX10_reachable_5 0 rfl ?_
  refine gz_get K (v := .int (gz_i τ1 43 32)) (by decide) (ce_43 _ _ _ _ _ _) rfl inz_X10 32 (by decide) zq5_63 rfl dX10_reachable_6 ?_
  refine gz_callV K hex (c_X10_done K.2.2.2.2.2 K.2.2.1 hp) cf_X10_done zq5_153 (by decide) (ce_43 _ _ _ _ _ _) rfl dX10_reachable_9 rfl rfl (Nat.le_of_ble_eq_true rfl) ⟨Nat.le_of_ble_eq_true rfl, Nat.le_of_ble_eq_true rfl⟩ ⟨Nat.le_of_ble_eq_true rfl, Nat.le_of_ble_eq_true rfl⟩ (Nat.le_of_ble_eq_true rfl) (Nat.le_of_ble_eq_true rfl) (fun _ _ h => h.elim) (fun r9 τ9 hp => ?_)
  refine gz_norm (st' := [.int r9]) (cells' := 0) (slots' := 0) rfl rfl rfl ?_
  exact gz_iret K hr hp dX10_reachable_12 (Nat.le_of_ble_eq_true rfl) (Nat.le_of_ble_eq_true rfl)
set_option maxRecDepth 100000 in
set_option maxHeartbeats 4000000 in
theorem c_X10_greatestDepth {l : Launch} {D : va_G} {ad : Nat → Nat} {ty : Nat → ClassId} (hl : l.stackTraces = false) (hj : ∀ i j, i < 68 → j < 68 → ad i = ad j → i = j) {σ : Dz} {post : Int32 → Dz → Prop} (hp : P_X10_greatestDepth σ post) : Mz l D ad ty yX10_greatestDepth cX10_greatestDepth 1 (some .int) r_X10_greatestDepth nI0 σ [.ref (ad 43)] post (fun _ _ => False) := by
  refine mz_of (by decide) hl hj (Nat.le_of_ble_eq_true rfl) ?_
  intro p e s m args below meth c K hex hr
  unfold P_X10_greatestDepth at hp
  show Gz p l e r_X10_greatestDepth s m args below meth c D ad ty 1 0 0 (Ez below D ad ty nI0 post (fun _ _ => False) args s 0 0) σ 0 [(0, .ref (ad 43))] []
  refine gz_aload_n K dX10_greatestDepth_0 0 rfl ?_
  refine gz_callV K hex (c_X10_tellDepths K.2.2.2.2.2 K.2.2.1 hp) cf_X10_tellDepths zq6_66 (by decide) (ce_43 _ _ _ _ _ _) rfl dX10_greatestDepth_1 rfl rfl (Nat.le_of_ble_eq_true rfl) ⟨Nat.le_of_ble_eq_true rfl, Nat.le_of_ble_eq_true rfl⟩ ⟨Nat.le_of_ble_eq_true rfl, Nat.le_of_ble_eq_true rfl⟩ (Nat.le_of_ble_eq_true rfl) (Nat.le_of_ble_eq_true rfl) (fun _ _ h => h.elim) (fun _ τ1 hp => ?_)
  refine gz_norm (st' := []) (cells' := 0) (slots' := 0) rfl rfl rfl ?_
  refine gz_aload_n K dX10_greatestDepth_4 0 rfl ?_
  refine gz_aload_n K dX10_greatestDepth_5 0 rfl ?_
  refine gz_get K (v := .int (gz_i τ1 43 33)) (by decide) (ce_43 _ _ _ _ _ _) rfl inz_X10 33 (by decide) zq5_64 rfl dX10_greatestDepth_6 ?_
  refine gz_callV K hex (c_X10_done K.2.2.2.2.2 K.2.2.1 hp) cf_X10_done zq5_153 (by decide) (ce_43 _ _ _ _ _ _) rfl dX10_greatestDepth_9 rfl rfl (Nat.le_of_ble_eq_true rfl) ⟨Nat.le_of_ble_eq_true rfl, Nat.le_of_ble_eq_true rfl⟩ ⟨Nat.le_of_ble_eq_true rfl, Nat.le_of_ble_eq_true rfl⟩ (Nat.le_of_ble_eq_true rfl) (Nat.le_of_ble_eq_true rfl) (fun _ _ h => h.elim) (fun r9 τ9 hp => ?_)
  refine gz_norm (st' := [.int r9]) (cells' := 0) (slots' := 0) rfl rfl rfl ?_
  exact gz_iret K hr hp dX10_greatestDepth_12 (Nat.le_of_ble_eq_true rfl) (Nat.le_of_ble_eq_true rfl)
set_option maxRecDepth 100000 in
set_option maxHeartbeats 4000000 in
theorem c_X10_averageDepth {l : Launch} {D : va_G} {ad : Nat → Nat} {ty : Nat → ClassId} (hl : l.stackTraces = false) (hj : ∀ i j, i < 68 → j < 68 → ad i = ad j → i = j) {σ : Dz} {post : UInt64 → Dz → Prop} (hp : P_X10_averageDepth σ post) : Mz l D ad ty yX10_averageDepth cX10_averageDepth 3 (some .double) r_X10_averageDepth nD0 σ [.ref (ad 43)] post (fun _ _ => False) := by
  refine mz_of (by decide) hl hj (Nat.le_of_ble_eq_true rfl) ?_
  intro p e s m args below meth c K hex hr
  unfold P_X10_averageDepth at hp
  show Gz p l e r_X10_averageDepth s m args below meth c D ad ty 3 0 0 (Ez below D ad ty nD0 post (fun _ _ => False) args s 0 0) σ 0 [(0, .ref (ad 43))] []
  refine gz_aload_n K dX10_averageDepth_0 0 rfl ?_
  refine gz_callV K hex (c_X10_tellDepths K.2.2.2.2.2 K.2.2.1 hp) cf_X10_tellDepths zq6_66 (by decide) (ce_43 _ _ _ _ _ _) rfl dX10_averageDepth_1 rfl rfl (Nat.le_of_ble_eq_true rfl) ⟨Nat.le_of_ble_eq_true rfl, Nat.le_of_ble_eq_true rfl⟩ ⟨Nat.le_of_ble_eq_true rfl, Nat.le_of_ble_eq_true rfl⟩ (Nat.le_of_ble_eq_true rfl) (Nat.le_of_ble_eq_true rfl) (fun _ _ h => h.elim) (fun _ τ1 hp => ?_)
  refine gz_norm (st' := []) (cells' := 0) (slots' := 0) rfl rfl rfl ?_
  refine gz_iconst K (v := (0 : Int32)) dX10_averageDepth_4 (by decide) ?_
  refine gz_istore_n K [(1, .int (0 : Int32)), (0, .ref (ad 43))] dX10_averageDepth_5 (by decide) rfl ?_
  refine gz_iconst K (v := (0 : Int32)) dX10_averageDepth_6 (by decide) ?_
  refine gz_istore_n K [(2, .int (0 : Int32)), (1, .int (0 : Int32)), (0, .ref (ad 43))] dX10_averageDepth_7 (by decide) rfl ?_
  refine gz_sub [2, 1, 0] rfl ?_
  have ll_8 : ∀ (n_8 : Nat) (σ : Dz) (y1 : Int32) (y2 : Int32) , L_X10_averageDepth_8 post  n_8 σ y1 y2 → Gz p l e r_X10_averageDepth s m args below meth c D ad ty 3 0 0 (Ez below D ad ty nD0 post (fun _ _ => False) args s 0 0) σ 8 [(0, .ref (ad 43)), (1, .int y1), (2, .int y2)] [] := by
    intro n_8; induction n_8 with
    | zero => intro σ y1 y2 hp; exact False.elim hp
    | succ n_8 ih_8 =>
      intro σ y1 y2 hp
      have hp : B_X10_averageDepth_8 post  (L_X10_averageDepth_8 post  n_8) σ y1 y2 := hp
      unfold B_X10_averageDepth_8 at hp
      refine gz_iload_n K dX10_averageDepth_8 2 rfl ?_
      refine gz_aload_n K dX10_averageDepth_9 0 rfl ?_
      refine gz_get K (v := .int (gz_i σ 43 33)) (by decide) (ce_43 _ _ _ _ _ _) rfl inz_X10 33 (by decide) zq5_64 rfl dX10_averageDepth_10 ?_
      refine gz_icmp_gt K 33 dX10_averageDepth_13 (by decide) (fun h => ?_) (fun h => ?_)
      · have hp := hp.1 h
        refine gz_aload_n K dX10_averageDepth_33 0 rfl ?_
        refine gz_iconst K (v := (0 : Int32)) dX10_averageDepth_34 (by decide) ?_
        refine gz_put K (x := (0 : Int32)) (by decide) (ce_43 _ _ _ _ _ _) rfl inz_X10 tyX10 tyX10_ok nmX10 0 (by decide) zq5_31 rfl (tyX10_ok _ (by decide)) rfl rfl (Nat.le_of_ble_eq_true rfl) peX10_0 dX10_averageDepth_35 ?_
        refine gz_iload_n K dX10_averageDepth_38 1 rfl ?_
        refine gz_i2d K dX10_averageDepth_39 ?_
        refine gz_aload_n K dX10_averageDepth_40 0 rfl ?_
        refine gz_get K (v := .int (gz_i (sz_i σ 43 0 (0 : Int32)) 43 32)) (by decide) (ce_43 _ _ _ _ _ _) rfl inz_X10 32 (by decide) zq5_63 rfl dX10_averageDepth_41 ?_
        refine gz_i2d K dX10_averageDepth_44 ?_
        obtain ⟨h, hp⟩ := hp
        refine gz_ddiv K dX10_averageDepth_45 h ?_
        exact gz_dret K hr hp dX10_averageDepth_46 (Nat.le_of_ble_eq_true rfl) (Nat.le_of_ble_eq_true rfl)
      · have hp := hp.2 h
        refine gz_iload_n K dX10_averageDepth_16 1 rfl ?_
        refine gz_iload_n K dX10_averageDepth_17 2 rfl ?_
        refine gz_aload_n K dX10_averageDepth_18 0 rfl ?_
        refine gz_get K (v := .ref (ad 65)) (by decide) (ce_43 _ _ _ _ _ _) rfl inz_X10 34 (by decide) zq5_65 rfl dX10_averageDepth_19 ?_
        refine gz_iload_n K dX10_averageDepth_22 2 rfl ?_
        obtain ⟨h, hp⟩ := hp
        refine gz_iald K (by decide) (ce_65 _ _ _ _ _ _) h dX10_averageDepth_23 ?_
        refine gz_imul K dX10_averageDepth_24 ?_
        refine gz_iadd K dX10_averageDepth_25 ?_
        refine gz_istore_n K [(1, .int (y1 + (y2 * (gz_i σ 65 (y2).toNatClampNeg)))), (0, .ref (ad 43)), (2, .int y2)] dX10_averageDepth_26 (by decide) rfl ?_
        refine gz_iinc K (v := (y2 + 1)) [(2, .int (y2 + 1)), (1, .int (y1 + (y2 * (gz_i σ 65 (y2).toNatClampNeg)))), (0, .ref (ad 43))] dX10_averageDepth_27 2 rfl (by first | rfl | decide) (by decide) rfl ?_
        refine gz_goto K 8 dX10_averageDepth_30 (by decide) ?_
        refine gz_sub [2, 1, 0] rfl ?_
        exact ih_8 σ (y1 + (y2 * (gz_i σ 65 (y2).toNatClampNeg))) (y2 + 1)  hp
  obtain ⟨n, hp⟩ := hp
  exact ll_8 n τ1 (0 : Int32) (0 : Int32)  hp
set_option maxRecDepth 100000 in
set_option maxHeartbeats 4000000 in
theorem c_X10_orbit {l : Launch} {D : va_G} {ad : Nat → Nat} {ty : Nat → ClassId} (hl : l.stackTraces = false) (hj : ∀ i j, i < 68 → j < 68 → ad i = ad j → i = j) {σ : Dz} {x1 : Int32} {post : Int32 → Dz → Prop} (hp : P_X10_orbit σ x1 post) : Mz l D ad ty yX10_orbit cX10_orbit 6 (some .int) r_X10_orbit nI0 σ [.ref (ad 43), .int x1] post (fun _ _ => False) := by
  refine mz_of (by decide) hl hj (Nat.le_of_ble_eq_true rfl) ?_
  intro p e s m args below meth c K hex hr
  unfold P_X10_orbit at hp
  show Gz p l e r_X10_orbit s m args below meth c D ad ty 6 0 0 (Ez below D ad ty nI0 post (fun _ _ => False) args s 0 0) σ 0 [(0, .ref (ad 43)), (1, .int x1)] []
  refine gz_aload_n K dX10_orbit_0 0 rfl ?_
  refine gz_iload_n K dX10_orbit_1 1 rfl ?_
  refine gz_callV K hex (c_X10_isPosition K.2.2.2.2.2 K.2.2.1 hp) cf_X10_isPosition zq5_181 (by decide) (ce_43 _ _ _ _ _ _) rfl dX10_orbit_2 rfl rfl (Nat.le_of_ble_eq_true rfl) ⟨Nat.le_of_ble_eq_true rfl, Nat.le_of_ble_eq_true rfl⟩ ⟨Nat.le_of_ble_eq_true rfl, Nat.le_of_ble_eq_true rfl⟩ (Nat.le_of_ble_eq_true rfl) (Nat.le_of_ble_eq_true rfl) (fun _ _ h => h.elim) (fun r2 τ hp => ?_)
  obtain ⟨rfl, hp⟩ := hp
  refine gz_norm (st' := [.int r2]) (cells' := 0) (slots' := 0) rfl rfl rfl ?_
  refine gz_if_ne K 14 dX10_orbit_5 (by decide) (fun h => ?_) (fun h => ?_)
  · have hp := hp.1 h
    refine gz_iconst K (v := (1 : Int32)) dX10_orbit_14 (by decide) ?_
    refine gz_iload_n K dX10_orbit_15 1 rfl ?_
    refine gz_iconst K (v := (1 : Int32)) dX10_orbit_16 (by decide) ?_
    refine gz_isub K dX10_orbit_17 ?_
    refine gz_ishl K dX10_orbit_18 ?_
    refine gz_istore_n K [(2, .int ((1 : Int32) <<< ((x1 - (1 : Int32)) &&& 31))), (0, .ref (ad 43)), (1, .int x1)] dX10_orbit_19 (by decide) rfl ?_
    refine gz_iconst K (v := (0 : Int32)) dX10_orbit_20 (by decide) ?_
    refine gz_istore_n K [(3, .int (0 : Int32)), (2, .int ((1 : Int32) <<< ((x1 - (1 : Int32)) &&& 31))), (0, .ref (ad 43)), (1, .int x1)] dX10_orbit_21 (by decide) rfl ?_
    refine gz_sub [2, 1, 0] rfl ?_
    have ll_22 : ∀ (n_22 : Nat) (σ : Dz) (y2 : Int32) (y3 : Int32) , L_X10_orbit_22 post  n_22 σ y2 y3 → Gz p l e r_X10_orbit s m args below meth c D ad ty 6 0 0 (Ez below D ad ty nI0 post (fun _ _ => False) args s 0 0) σ 22 [(0, .ref (ad 43)), (2, .int y2), (3, .int y3)] [] := by
      intro n_22; induction n_22 with
      | zero => intro σ y2 y3 hp; exact False.elim hp
      | succ n_22 ih_22 =>
        intro σ y2 y3 hp
        have hp : B_X10_orbit_22 post  (L_X10_orbit_22 post  n_22) σ y2 y3 := hp
        unfold B_X10_orbit_22 at hp
        refine gz_iload_n K dX10_orbit_22 2 rfl ?_
        refine gz_iload_n K dX10_orbit_23 1 rfl ?_
        refine gz_icmp_eq K 111 dX10_orbit_24 (by decide) (fun h => ?_) (fun h => ?_)
        · have hp := hp.1 h
          refine gz_aload_n K dX10_orbit_111 0 rfl ?_
          refine gz_iload_n K dX10_orbit_112 1 rfl ?_
          refine gz_callV K hex (c_X10_done K.2.2.2.2.2 K.2.2.1 hp) cf_X10_done zq5_153 (by decide) (ce_43 _ _ _ _ _ _) rfl dX10_orbit_113 rfl rfl (Nat.le_of_ble_eq_true rfl) ⟨Nat.le_of_ble_eq_true rfl, Nat.le_of_ble_eq_true rfl⟩ ⟨Nat.le_of_ble_eq_true rfl, Nat.le_of_ble_eq_true rfl⟩ (Nat.le_of_ble_eq_true rfl) (Nat.le_of_ble_eq_true rfl) (fun _ _ h => h.elim) (fun r113 τ113 hp => ?_)
          refine gz_norm (st' := [.int r113]) (cells' := 0) (slots' := 0) rfl rfl rfl ?_
          exact gz_iret K hr hp dX10_orbit_116 (Nat.le_of_ble_eq_true rfl) (Nat.le_of_ble_eq_true rfl)
        · have hp := hp.2 h
          refine gz_iload_n K dX10_orbit_27 1 rfl ?_
          refine gz_istore_n K [(3, .int y2), (0, .ref (ad 43)), (2, .int y2)] dX10_orbit_28 (by decide) rfl ?_
          refine gz_iconst K (v := (0 : Int32)) dX10_orbit_29 (by decide) ?_
          refine gz_istore K [(4, .int (0 : Int32)), (3, .int y2), (0, .ref (ad 43)), (2, .int y2)] dX10_orbit_30 (by decide) rfl ?_
          refine gz_sub [2, 3, 1, 0] rfl ?_
          have ll_32 : ∀ (n_32 : Nat) (σ : Dz) (y2 : Int32) (y3 : Int32) (y4 : Int32) , L_X10_orbit_32 post (L_X10_orbit_22 post  n_22) n_32 σ y2 y3 y4 → Gz p l e r_X10_orbit s m args below meth c D ad ty 6 0 0 (Ez below D ad ty nI0 post (fun _ _ => False) args s 0 0) σ 32 [(0, .ref (ad 43)), (2, .int y2), (3, .int y3), (4, .int y4)] [] := by
            intro n_32; induction n_32 with
            | zero => intro σ y2 y3 y4 hp; exact False.elim hp
            | succ n_32 ih_32 =>
              intro σ y2 y3 y4 hp
              have hp : B_X10_orbit_32 post (L_X10_orbit_22 post  n_22) (L_X10_orbit_32 post (L_X10_orbit_22 post  n_22) n_32) σ y2 y3 y4 := hp
              unfold B_X10_orbit_32 at hp
              have bb_102 : ∀ (σ : Dz) (y2 : Int32) (y3 : Int32) (y4 : Int32) , B_X10_orbit_102 post (L_X10_orbit_22 post  n_22) (L_X10_orbit_32 post (L_X10_orbit_22 post  n_22) n_32) σ y2 y3 y4 → Gz p l e r_X10_orbit s m args below meth c D ad ty 6 0 0 (Ez below D ad ty nI0 post (fun _ _ => False) args s 0 0) σ 102 [(0, .ref (ad 43)), (2, .int y2), (3, .int y3), (4, .int y4)] [] := by
                intro σ y2 y3 y4 hp
                unfold B_X10_orbit_102 at hp
                refine gz_iinc K (v := (y4 + 1)) [(4, .int (y4 + 1)), (0, .ref (ad 43)), (2, .int y2), (3, .int y3)] dX10_orbit_102 3 rfl (by first | rfl | decide) (by decide) rfl ?_
                refine gz_goto K 32 dX10_orbit_105 (by decide) ?_
                refine gz_sub [1, 2, 3, 0] rfl ?_
                exact ih_32 σ y2 y3 (y4 + 1)  hp
              refine gz_iload K dX10_orbit_32 3 rfl ?_
              refine gz_bipush K (v := (10 : Int32)) dX10_orbit_34 (by decide) ?_
              refine gz_icmp_ge K 108 dX10_orbit_36 (by decide) (fun h => ?_) (fun h => ?_)
              · have hp := hp.1 h
                refine gz_goto K 22 dX10_orbit_108 (by decide) ?_
                refine gz_sub [0, 1, 2] rfl ?_
                exact ih_22 σ y2 y3  hp
              · have hp := hp.2 h
                refine gz_iconst K (v := (1 : Int32)) dX10_orbit_39 (by decide) ?_
                refine gz_istore K [(5, .int (1 : Int32)), (0, .ref (ad 43)), (2, .int y2), (3, .int y3), (4, .int y4)] dX10_orbit_40 (by decide) rfl ?_
                refine gz_sub [1, 2, 3, 4, 0] rfl ?_
                have ll_42 : ∀ (n_42 : Nat) (σ : Dz) (y2 : Int32) (y3 : Int32) (y4 : Int32) (y5 : Int32) , L_X10_orbit_42 post (L_X10_orbit_22 post  n_22) (L_X10_orbit_32 post (L_X10_orbit_22 post  n_22) n_32) n_42 σ y2 y3 y4 y5 → Gz p l e r_X10_orbit s m args below meth c D ad ty 6 0 0 (Ez below D ad ty nI0 post (fun _ _ => False) args s 0 0) σ 42 [(0, .ref (ad 43)), (2, .int y2), (3, .int y3), (4, .int y4), (5, .int y5)] [] := by
                  intro n_42; induction n_42 with
                  | zero => intro σ y2 y3 y4 y5 hp; exact False.elim hp
                  | succ n_42 ih_42 =>
                    intro σ y2 y3 y4 y5 hp
                    have hp : B_X10_orbit_42 post (L_X10_orbit_22 post  n_22) (L_X10_orbit_32 post (L_X10_orbit_22 post  n_22) n_32) (L_X10_orbit_42 post (L_X10_orbit_22 post  n_22) (L_X10_orbit_32 post (L_X10_orbit_22 post  n_22) n_32) n_42) σ y2 y3 y4 y5 := hp
                    unfold B_X10_orbit_42 at hp
                    have bb_94 : ∀ (σ : Dz) (y3 : Int32) (y4 : Int32) (y5 : Int32) (z0 : Int32) (z1 : Int32) , B_X10_orbit_94 post (L_X10_orbit_22 post  n_22) (L_X10_orbit_32 post (L_X10_orbit_22 post  n_22) n_32) (L_X10_orbit_42 post (L_X10_orbit_22 post  n_22) (L_X10_orbit_32 post (L_X10_orbit_22 post  n_22) n_32) n_42) σ y3 y4 y5 z0 z1 → Gz p l e r_X10_orbit s m args below meth c D ad ty 6 0 0 (Ez below D ad ty nI0 post (fun _ _ => False) args s 0 0) σ 94 [(0, .ref (ad 43)), (3, .int y3), (4, .int y4), (5, .int y5)] [.int z0, .int z1] := by
                      intro σ y3 y4 y5 z0 z1 hp
                      unfold B_X10_orbit_94 at hp
                      refine gz_ior K dX10_orbit_94 ?_
                      refine gz_istore_n K [(2, .int (z1 ||| z0)), (0, .ref (ad 43)), (3, .int y3), (4, .int y4), (5, .int y5)] dX10_orbit_95 (by decide) rfl ?_
                      refine gz_iinc K (v := (y5 + 1)) [(5, .int (y5 + 1)), (2, .int (z1 ||| z0)), (0, .ref (ad 43)), (3, .int y3), (4, .int y4)] dX10_orbit_96 4 rfl (by first | rfl | decide) (by decide) rfl ?_
                      refine gz_goto K 42 dX10_orbit_99 (by decide) ?_
                      refine gz_sub [2, 1, 3, 4, 0] rfl ?_
                      exact ih_42 σ (z1 ||| z0) y3 y4 (y5 + 1)  hp
                    refine gz_iload K dX10_orbit_42 4 rfl ?_
                    refine gz_aload_n K dX10_orbit_44 0 rfl ?_
                    refine gz_get K (v := .int (gz_i σ 43 1)) (by decide) (ce_43 _ _ _ _ _ _) rfl inz_X10 1 (by decide) zq5_32 rfl dX10_orbit_45 ?_
                    refine gz_icmp_gt K 102 dX10_orbit_48 (by decide) (fun h => ?_) (fun h => ?_)
                    · have hp := hp.1 h
                      refine gz_sub [0, 1, 2, 3] rfl ?_
                      exact bb_102 σ y2 y3 y4  hp
                    · have hp := hp.2 h
                      refine gz_aload_n K dX10_orbit_51 0 rfl ?_
                      refine gz_iload K dX10_orbit_52 3 rfl ?_
                      refine gz_callV K hex (c_X10_isLetter K.2.2.2.2.2 K.2.2.1 hp) cf_X10_isLetter zq6_82 (by decide) (ce_43 _ _ _ _ _ _) rfl dX10_orbit_54 rfl rfl (Nat.le_of_ble_eq_true rfl) ⟨Nat.le_of_ble_eq_true rfl, Nat.le_of_ble_eq_true rfl⟩ ⟨Nat.le_of_ble_eq_true rfl, Nat.le_of_ble_eq_true rfl⟩ (Nat.le_of_ble_eq_true rfl) (Nat.le_of_ble_eq_true rfl) (fun _ _ h => h.elim) (fun r54 τ hp => ?_)
                      obtain ⟨rfl, hp⟩ := hp
                      refine gz_norm (st' := [.int r54]) (cells' := 0) (slots' := 0) rfl rfl rfl ?_
                      refine gz_if_eq K 102 dX10_orbit_57 (by decide) (fun h => ?_) (fun h => ?_)
                      · have hp := hp.1 h
                        refine gz_sub [0, 1, 2, 3] rfl ?_
                        exact bb_102 σ y2 y3 y4  hp
                      · have hp := hp.2 h
                        refine gz_iload_n K dX10_orbit_60 1 rfl ?_
                        refine gz_iload_n K dX10_orbit_61 1 rfl ?_
                        refine gz_iload K dX10_orbit_62 4 rfl ?_
                        refine gz_iconst K (v := (1 : Int32)) dX10_orbit_64 (by decide) ?_
                        refine gz_isub K dX10_orbit_65 ?_
                        refine gz_ishr K dX10_orbit_66 ?_
                        refine gz_iconst K (v := (1 : Int32)) dX10_orbit_67 (by decide) ?_
                        refine gz_iand K dX10_orbit_68 ?_
                        refine gz_iconst K (v := (1 : Int32)) dX10_orbit_69 (by decide) ?_
                        refine gz_icmp_ne K 93 dX10_orbit_70 (by decide) (fun h => ?_) (fun h => ?_)
                        · have hp := hp.1 h
                          refine gz_iconst K (v := (0 : Int32)) dX10_orbit_93 (by decide) ?_
                          refine gz_sub [0, 2, 3, 4] rfl ?_
                          exact bb_94 σ y3 y4 y5 (0 : Int32) y2  hp
                        · have hp := hp.2 h
                          refine gz_iconst K (v := (1 : Int32)) dX10_orbit_73 (by decide) ?_
                          refine gz_aload_n K dX10_orbit_74 0 rfl ?_
                          refine gz_get K (v := .ref (ad 46)) (by decide) (ce_43 _ _ _ _ _ _) rfl inz_X10 4 (by decide) zq5_35 rfl dX10_orbit_75 ?_
                          refine gz_bipush K (v := (8 : Int32)) dX10_orbit_78 (by decide) ?_
                          refine gz_iload K dX10_orbit_80 3 rfl ?_
                          refine gz_imul K dX10_orbit_82 ?_
                          refine gz_iload K dX10_orbit_83 4 rfl ?_
                          refine gz_iadd K dX10_orbit_85 ?_
                          obtain ⟨h, hp⟩ := hp
                          refine gz_iald K (by decide) (ce_46 _ _ _ _ _ _) h dX10_orbit_86 ?_
                          refine gz_iconst K (v := (1 : Int32)) dX10_orbit_87 (by decide) ?_
                          refine gz_isub K dX10_orbit_88 ?_
                          refine gz_ishl K dX10_orbit_89 ?_
                          refine gz_goto K 94 dX10_orbit_90 (by decide) ?_
                          refine gz_sub [0, 2, 3, 4] rfl ?_
                          exact bb_94 σ y3 y4 y5 ((1 : Int32) <<< (((gz_i σ 46 ((((8 : Int32) * y4) + y5)).toNatClampNeg) - (1 : Int32)) &&& 31)) y2  hp
                obtain ⟨n, hp⟩ := hp
                exact ll_42 n σ y2 y3 y4 (1 : Int32)  hp
          obtain ⟨n, hp⟩ := hp
          exact ll_32 n σ y2 y2 (0 : Int32)  hp
    obtain ⟨n, hp⟩ := hp
    exact ll_22 n σ ((1 : Int32) <<< ((x1 - (1 : Int32)) &&& 31)) (0 : Int32)  hp
  · have hp := hp.2 h
    refine gz_aload_n K dX10_orbit_8 0 rfl ?_
    refine gz_iconst K (v := (1 : Int32)) dX10_orbit_9 (by decide) ?_
    refine gz_callV K hex (c_X10_fails K.2.2.2.2.2 K.2.2.1 hp) cf_X10_fails zq5_149 (by decide) (ce_43 _ _ _ _ _ _) rfl dX10_orbit_10 rfl rfl (Nat.le_of_ble_eq_true rfl) ⟨Nat.le_of_ble_eq_true rfl, Nat.le_of_ble_eq_true rfl⟩ ⟨Nat.le_of_ble_eq_true rfl, Nat.le_of_ble_eq_true rfl⟩ (Nat.le_of_ble_eq_true rfl) (Nat.le_of_ble_eq_true rfl) (fun _ _ h => h.elim) (fun r10 τ10 hp => ?_)
    refine gz_norm (st' := [.int r10]) (cells' := 0) (slots' := 0) rfl rfl rfl ?_
    exact gz_iret K hr hp dX10_orbit_13 (Nat.le_of_ble_eq_true rfl) (Nat.le_of_ble_eq_true rfl)
set_option maxRecDepth 100000 in
set_option maxHeartbeats 4000000 in
theorem c_X10_shortLed {l : Launch} {D : va_G} {ad : Nat → Nat} {ty : Nat → ClassId} (hl : l.stackTraces = false) (hj : ∀ i j, i < 68 → j < 68 → ad i = ad j → i = j) {σ : Dz} {x1 : Int32} {x2 : Int32} {x3 : Int32} {x4 : Int32} {post : Int32 → Prop} (hp : P_X10_shortLed σ x1 x2 x3 x4 post) : Mz l D ad ty yX10_shortLed cX10_shortLed 8 (some .int) r_X10_shortLed nI0 σ [.ref (ad 43), .int x1, .int x2, .int x3, .int x4] (fun r τ => σ = τ ∧ post r) (fun _ _ => False) := by
  refine mz_of (by decide) hl hj (Nat.le_of_ble_eq_true rfl) ?_
  intro p e s m args below meth c K hex hr
  unfold P_X10_shortLed at hp
  have bb_70 : ∀ (y3 : Int32) (y4 : Int32) (y5 : Int32) (y6 : Int32) (z0 : Int32) (z1 : Int32) , B_X10_shortLed_70 σ post  y3 y4 y5 y6 z0 z1 → Gz p l e r_X10_shortLed s m args below meth c D ad ty 8 0 0 (Ez below D ad ty nI0 (fun r τ => σ = τ ∧ post r) (fun _ _ => False) args s 0 0) σ 70 [(0, .ref (ad 43)), (3, .int y3), (4, .int y4), (5, .int y5), (6, .int y6)] [.int z0, .int z1, .ref (ad 46)] := by
    intro y3 y4 y5 y6 z0 z1 hp
    unfold B_X10_shortLed_70 at hp
    refine gz_imul K dX10_shortLed_70 ?_
    refine gz_iload K dX10_shortLed_71 2 rfl ?_
    refine gz_iadd K dX10_shortLed_73 ?_
    obtain ⟨h, hp⟩ := hp
    refine gz_iald K (by decide) (ce_46 _ _ _ _ _ _) h dX10_shortLed_74 ?_
    refine gz_istore K [(7, .int (gz_i σ 46 (((z1 * z0) + y4)).toNatClampNeg)), (0, .ref (ad 43)), (3, .int y3), (4, .int y4), (5, .int y5), (6, .int y6)] dX10_shortLed_75 (by decide) rfl ?_
    refine gz_aload_n K dX10_shortLed_77 1 rfl ?_
    refine gz_get K (v := .ref (ad 46)) (by decide) (ce_43 _ _ _ _ _ _) rfl inz_X10 4 (by decide) zq5_35 rfl dX10_shortLed_78 ?_
    refine gz_bipush K (v := (8 : Int32)) dX10_shortLed_81 (by decide) ?_
    refine gz_iload_n K dX10_shortLed_83 2 rfl ?_
    refine gz_if_eq K 94 dX10_shortLed_84 (by decide) (fun h => ?_) (fun h => ?_)
    · have hp := hp.1 h
      refine gz_iload K dX10_shortLed_94 5 rfl ?_
      refine gz_imul K dX10_shortLed_96 ?_
      refine gz_iload K dX10_shortLed_97 0 rfl ?_
      refine gz_iadd K dX10_shortLed_99 ?_
      obtain ⟨h, hp⟩ := hp
      refine gz_iald K (by decide) (ce_46 _ _ _ _ _ _) h dX10_shortLed_100 ?_
      exact gz_iret K hr ⟨rfl, hp⟩ dX10_shortLed_101 (Nat.le_of_ble_eq_true rfl) (Nat.le_of_ble_eq_true rfl)
    · have hp := hp.2 h
      refine gz_iload K dX10_shortLed_87 4 rfl ?_
      refine gz_iconst K (v := (1 : Int32)) dX10_shortLed_89 (by decide) ?_
      refine gz_ixor K dX10_shortLed_90 ?_
      refine gz_goto K 96 dX10_shortLed_91 (by decide) ?_
      refine gz_imul K dX10_shortLed_96 ?_
      refine gz_iload K dX10_shortLed_97 0 rfl ?_
      refine gz_iadd K dX10_shortLed_99 ?_
      obtain ⟨h, hp⟩ := hp
      refine gz_iald K (by decide) (ce_46 _ _ _ _ _ _) h dX10_shortLed_100 ?_
      exact gz_iret K hr ⟨rfl, hp⟩ dX10_shortLed_101 (Nat.le_of_ble_eq_true rfl) (Nat.le_of_ble_eq_true rfl)
  have bb_13 : ∀ (y1 : Int32) (y2 : Int32) (y3 : Int32) (y4 : Int32) (z0 : Int32) , B_X10_shortLed_13 σ post  y1 y2 y3 y4 z0 → Gz p l e r_X10_shortLed s m args below meth c D ad ty 8 0 0 (Ez below D ad ty nI0 (fun r τ => σ = τ ∧ post r) (fun _ _ => False) args s 0 0) σ 13 [(0, .ref (ad 43)), (1, .int y1), (2, .int y2), (3, .int y3), (4, .int y4)] [.int z0] := by
    intro y1 y2 y3 y4 z0 hp
    unfold B_X10_shortLed_13 at hp
    refine gz_istore K [(5, .int z0), (0, .ref (ad 43)), (1, .int y1), (2, .int y2), (3, .int y3), (4, .int y4)] dX10_shortLed_13 (by decide) rfl ?_
    refine gz_iload_n K dX10_shortLed_15 3 rfl ?_
    refine gz_bipush K (v := (10 : Int32)) dX10_shortLed_16 (by decide) ?_
    refine gz_irem K dX10_shortLed_18 (by decide) ?_
    refine gz_istore K [(6, .int (y2 - y2 / (10 : Int32) * (10 : Int32))), (5, .int z0), (0, .ref (ad 43)), (1, .int y1), (2, .int y2), (3, .int y3), (4, .int y4)] dX10_shortLed_19 (by decide) rfl ?_
    refine gz_iload_n K dX10_shortLed_21 3 rfl ?_
    refine gz_iconst K (v := (1 : Int32)) dX10_shortLed_22 (by decide) ?_
    refine gz_icmp_ne K 51 dX10_shortLed_23 (by decide) (fun h => ?_) (fun h => ?_)
    · have hp := hp.1 h
      refine gz_aload_n K dX10_shortLed_51 2 rfl ?_
      refine gz_get K (v := .ref (ad 46)) (by decide) (ce_43 _ _ _ _ _ _) rfl inz_X10 4 (by decide) zq5_35 rfl dX10_shortLed_52 ?_
      refine gz_bipush K (v := (8 : Int32)) dX10_shortLed_55 (by decide) ?_
      refine gz_iload_n K dX10_shortLed_57 5 rfl ?_
      refine gz_if_eq K 68 dX10_shortLed_58 (by decide) (fun h => ?_) (fun h => ?_)
      · have hp := hp.1 h
        refine gz_iload K dX10_shortLed_68 1 rfl ?_
        refine gz_sub [2, 5, 6, 1, 0] rfl ?_
        exact bb_70 y3 y4 z0 (y2 - y2 / (10 : Int32) * (10 : Int32)) z0 (8 : Int32)  hp
      · have hp := hp.2 h
        refine gz_iload K dX10_shortLed_61 0 rfl ?_
        refine gz_iconst K (v := (1 : Int32)) dX10_shortLed_63 (by decide) ?_
        refine gz_ixor K dX10_shortLed_64 ?_
        refine gz_goto K 70 dX10_shortLed_65 (by decide) ?_
        refine gz_sub [2, 5, 6, 1, 0] rfl ?_
        exact bb_70 y3 y4 z0 (y2 - y2 / (10 : Int32) * (10 : Int32)) ((y2 - y2 / (10 : Int32) * (10 : Int32)) ^^^ (1 : Int32)) (8 : Int32)  hp
    · have hp := hp.2 h
      refine gz_aload_n K dX10_shortLed_26 2 rfl ?_
      refine gz_get K (v := .ref (ad 46)) (by decide) (ce_43 _ _ _ _ _ _) rfl inz_X10 4 (by decide) zq5_35 rfl dX10_shortLed_27 ?_
      refine gz_bipush K (v := (8 : Int32)) dX10_shortLed_30 (by decide) ?_
      refine gz_iload_n K dX10_shortLed_32 5 rfl ?_
      refine gz_if_eq K 43 dX10_shortLed_33 (by decide) (fun h => ?_) (fun h => ?_)
      · have hp := hp.1 h
        refine gz_iload K dX10_shortLed_43 1 rfl ?_
        refine gz_imul K dX10_shortLed_45 ?_
        refine gz_iload K dX10_shortLed_46 6 rfl ?_
        refine gz_iadd K dX10_shortLed_48 ?_
        obtain ⟨h, hp⟩ := hp
        refine gz_iald K (by decide) (ce_46 _ _ _ _ _ _) h dX10_shortLed_49 ?_
        exact gz_iret K hr ⟨rfl, hp⟩ dX10_shortLed_50 (Nat.le_of_ble_eq_true rfl) (Nat.le_of_ble_eq_true rfl)
      · have hp := hp.2 h
        refine gz_iload K dX10_shortLed_36 1 rfl ?_
        refine gz_iconst K (v := (1 : Int32)) dX10_shortLed_38 (by decide) ?_
        refine gz_ixor K dX10_shortLed_39 ?_
        refine gz_goto K 45 dX10_shortLed_40 (by decide) ?_
        refine gz_imul K dX10_shortLed_45 ?_
        refine gz_iload K dX10_shortLed_46 6 rfl ?_
        refine gz_iadd K dX10_shortLed_48 ?_
        obtain ⟨h, hp⟩ := hp
        refine gz_iald K (by decide) (ce_46 _ _ _ _ _ _) h dX10_shortLed_49 ?_
        exact gz_iret K hr ⟨rfl, hp⟩ dX10_shortLed_50 (Nat.le_of_ble_eq_true rfl) (Nat.le_of_ble_eq_true rfl)
  show Gz p l e r_X10_shortLed s m args below meth c D ad ty 8 0 0 (Ez below D ad ty nI0 (fun r τ => σ = τ ∧ post r) (fun _ _ => False) args s 0 0) σ 0 [(0, .ref (ad 43)), (1, .int x1), (2, .int x2), (3, .int x3), (4, .int x4)] []
  refine gz_iload_n K dX10_shortLed_0 1 rfl ?_
  refine gz_iconst K (v := (1 : Int32)) dX10_shortLed_1 (by decide) ?_
  refine gz_icmp_ne K 9 dX10_shortLed_2 (by decide) (fun h => ?_) (fun h => ?_)
  · have hp := hp.1 h
    refine gz_iload_n K dX10_shortLed_9 2 rfl ?_
    refine gz_bipush K (v := (10 : Int32)) dX10_shortLed_10 (by decide) ?_
    refine gz_idiv K dX10_shortLed_12 (by decide) ?_
    exact bb_13 x1 x2 x3 x4 (x2 / (10 : Int32))  hp
  · have hp := hp.2 h
    refine gz_iload_n K dX10_shortLed_5 2 rfl ?_
    refine gz_goto K 13 dX10_shortLed_6 (by decide) ?_
    exact bb_13 x1 x2 x3 x4 x2  hp
set_option maxRecDepth 100000 in
set_option maxHeartbeats 4000000 in
theorem c_X10_isShort {l : Launch} {D : va_G} {ad : Nat → Nat} {ty : Nat → ClassId} (hl : l.stackTraces = false) (hj : ∀ i j, i < 68 → j < 68 → ad i = ad j → i = j) {σ : Dz} {x1 : Int32} {x2 : Int32} {post : Int32 → Prop} (hp : P_X10_isShort σ x1 x2 post) : Mz l D ad ty yX10_isShort cX10_isShort 3 (some .boolean) r_X10_isShort nI0 σ [.ref (ad 43), .int x1, .int x2] (fun r τ => σ = τ ∧ post r) (fun _ _ => False) := by
  refine mz_of (by decide) hl hj (Nat.le_of_ble_eq_true rfl) ?_
  intro p e s m args below meth c K hex hr
  unfold P_X10_isShort at hp
  show Gz p l e r_X10_isShort s m args below meth c D ad ty 3 0 0 (Ez below D ad ty nI0 (fun r τ => σ = τ ∧ post r) (fun _ _ => False) args s 0 0) σ 0 [(0, .ref (ad 43)), (1, .int x1), (2, .int x2)] []
  refine gz_aload_n K dX10_isShort_0 0 rfl ?_
  refine gz_iload_n K dX10_isShort_1 2 rfl ?_
  refine gz_bipush K (v := (10 : Int32)) dX10_isShort_2 (by decide) ?_
  refine gz_irem K dX10_isShort_4 (by decide) ?_
  refine gz_callV K hex (c_X10_isLetter K.2.2.2.2.2 K.2.2.1 hp) cf_X10_isLetter zq6_82 (by decide) (ce_43 _ _ _ _ _ _) rfl dX10_isShort_5 rfl rfl (Nat.le_of_ble_eq_true rfl) ⟨Nat.le_of_ble_eq_true rfl, Nat.le_of_ble_eq_true rfl⟩ ⟨Nat.le_of_ble_eq_true rfl, Nat.le_of_ble_eq_true rfl⟩ (Nat.le_of_ble_eq_true rfl) (Nat.le_of_ble_eq_true rfl) (fun _ _ h => h.elim) (fun r5 τ hp => ?_)
  obtain ⟨rfl, hp⟩ := hp
  refine gz_norm (st' := [.int r5]) (cells' := 0) (slots' := 0) rfl rfl rfl ?_
  refine gz_if_eq K 31 dX10_isShort_8 (by decide) (fun h => ?_) (fun h => ?_)
  · have hp := hp.1 h
    refine gz_iconst K (v := (0 : Int32)) dX10_isShort_31 (by decide) ?_
    exact gz_zret K hr (by decide) ⟨rfl, hp⟩ dX10_isShort_32 (Nat.le_of_ble_eq_true rfl) (Nat.le_of_ble_eq_true rfl)
  · have hp := hp.2 h
    refine gz_iload_n K dX10_isShort_11 1 rfl ?_
    refine gz_iconst K (v := (1 : Int32)) dX10_isShort_12 (by decide) ?_
    refine gz_icmp_eq K 27 dX10_isShort_13 (by decide) (fun h => ?_) (fun h => ?_)
    · have hp := hp.1 h
      refine gz_iconst K (v := (1 : Int32)) dX10_isShort_27 (by decide) ?_
      refine gz_goto K 32 dX10_isShort_28 (by decide) ?_
      exact gz_zret K hr (by decide) ⟨rfl, hp⟩ dX10_isShort_32 (Nat.le_of_ble_eq_true rfl) (Nat.le_of_ble_eq_true rfl)
    · have hp := hp.2 h
      refine gz_aload_n K dX10_isShort_16 0 rfl ?_
      refine gz_iload_n K dX10_isShort_17 2 rfl ?_
      refine gz_bipush K (v := (10 : Int32)) dX10_isShort_18 (by decide) ?_
      refine gz_idiv K dX10_isShort_20 (by decide) ?_
      refine gz_callV K hex (c_X10_isLetter K.2.2.2.2.2 K.2.2.1 hp) cf_X10_isLetter zq6_82 (by decide) (ce_43 _ _ _ _ _ _) rfl dX10_isShort_21 rfl rfl (Nat.le_of_ble_eq_true rfl) ⟨Nat.le_of_ble_eq_true rfl, Nat.le_of_ble_eq_true rfl⟩ ⟨Nat.le_of_ble_eq_true rfl, Nat.le_of_ble_eq_true rfl⟩ (Nat.le_of_ble_eq_true rfl) (Nat.le_of_ble_eq_true rfl) (fun _ _ h => h.elim) (fun r21 τ hp => ?_)
      obtain ⟨rfl, hp⟩ := hp
      refine gz_norm (st' := [.int r21]) (cells' := 0) (slots' := 0) rfl rfl rfl ?_
      refine gz_if_eq K 31 dX10_isShort_24 (by decide) (fun h => ?_) (fun h => ?_)
      · have hp := hp.1 h
        refine gz_iconst K (v := (0 : Int32)) dX10_isShort_31 (by decide) ?_
        exact gz_zret K hr (by decide) ⟨rfl, hp⟩ dX10_isShort_32 (Nat.le_of_ble_eq_true rfl) (Nat.le_of_ble_eq_true rfl)
      · have hp := hp.2 h
        refine gz_iconst K (v := (1 : Int32)) dX10_isShort_27 (by decide) ?_
        refine gz_goto K 32 dX10_isShort_28 (by decide) ?_
        exact gz_zret K hr (by decide) ⟨rfl, hp⟩ dX10_isShort_32 (Nat.le_of_ble_eq_true rfl) (Nat.le_of_ble_eq_true rfl)
set_option maxRecDepth 100000 in
set_option maxHeartbeats 4000000 in
theorem c_X10_movedBy {l : Launch} {D : va_G} {ad : Nat → Nat} {ty : Nat → ClassId} (hl : l.stackTraces = false) (hj : ∀ i j, i < 68 → j < 68 → ad i = ad j → i = j) {σ : Dz} {x1 : Int32} {x2 : Int32} {x3 : Int32} {x4 : Int32} {post : Int32 → Prop} (hp : P_X10_movedBy σ x1 x2 x3 x4 post) : Mz l D ad ty yX10_movedBy cX10_movedBy 8 (some .int) r_X10_movedBy nI0 σ [.ref (ad 43), .int x1, .int x2, .int x3, .int x4] (fun r τ => σ = τ ∧ post r) (fun _ _ => False) := by
  refine mz_of (by decide) hl hj (Nat.le_of_ble_eq_true rfl) ?_
  intro p e s m args below meth c K hex hr
  unfold P_X10_movedBy at hp
  show Gz p l e r_X10_movedBy s m args below meth c D ad ty 8 0 0 (Ez below D ad ty nI0 (fun r τ => σ = τ ∧ post r) (fun _ _ => False) args s 0 0) σ 0 [(0, .ref (ad 43)), (1, .int x1), (2, .int x2), (3, .int x3), (4, .int x4)] []
  refine gz_iconst K (v := (0 : Int32)) dX10_movedBy_0 (by decide) ?_
  refine gz_istore K [(5, .int (0 : Int32)), (0, .ref (ad 43)), (1, .int x1), (2, .int x2), (3, .int x3), (4, .int x4)] dX10_movedBy_1 (by decide) rfl ?_
  refine gz_iconst K (v := (1 : Int32)) dX10_movedBy_3 (by decide) ?_
  refine gz_istore K [(6, .int (1 : Int32)), (5, .int (0 : Int32)), (0, .ref (ad 43)), (1, .int x1), (2, .int x2), (3, .int x3), (4, .int x4)] dX10_movedBy_4 (by decide) rfl ?_
  refine gz_sub [2, 3, 4, 5, 6, 1, 0] rfl ?_
  have ll_6 : ∀ (n_6 : Nat) (y1 : Int32) (y2 : Int32) (y3 : Int32) (y4 : Int32) (y5 : Int32) (y6 : Int32) , L_X10_movedBy_6 σ post  n_6 y1 y2 y3 y4 y5 y6 → Gz p l e r_X10_movedBy s m args below meth c D ad ty 8 0 0 (Ez below D ad ty nI0 (fun r τ => σ = τ ∧ post r) (fun _ _ => False) args s 0 0) σ 6 [(0, .ref (ad 43)), (1, .int y1), (2, .int y2), (3, .int y3), (4, .int y4), (5, .int y5), (6, .int y6)] [] := by
    intro n_6; induction n_6 with
    | zero => intro y1 y2 y3 y4 y5 y6 hp; exact False.elim hp
    | succ n_6 ih_6 =>
      intro y1 y2 y3 y4 y5 y6 hp
      have hp : B_X10_movedBy_6 σ post  (L_X10_movedBy_6 σ post  n_6) y1 y2 y3 y4 y5 y6 := hp
      unfold B_X10_movedBy_6 at hp
      have bb_67 : ∀ (y1 : Int32) (y2 : Int32) (y3 : Int32) (y4 : Int32) (y6 : Int32) (z0 : Int32) (z1 : Int32) , B_X10_movedBy_67 σ post (L_X10_movedBy_6 σ post  n_6) y1 y2 y3 y4 y6 z0 z1 → Gz p l e r_X10_movedBy s m args below meth c D ad ty 8 0 0 (Ez below D ad ty nI0 (fun r τ => σ = τ ∧ post r) (fun _ _ => False) args s 0 0) σ 67 [(0, .ref (ad 43)), (1, .int y1), (2, .int y2), (3, .int y3), (4, .int y4), (6, .int y6)] [.int z0, .int z1] := by
        intro y1 y2 y3 y4 y6 z0 z1 hp
        unfold B_X10_movedBy_67 at hp
        refine gz_iadd K dX10_movedBy_67 ?_
        refine gz_istore K [(5, .int (z1 + z0)), (0, .ref (ad 43)), (1, .int y1), (2, .int y2), (3, .int y3), (4, .int y4), (6, .int y6)] dX10_movedBy_68 (by decide) rfl ?_
        refine gz_iinc K (v := (y6 + 1)) [(6, .int (y6 + 1)), (5, .int (z1 + z0)), (0, .ref (ad 43)), (1, .int y1), (2, .int y2), (3, .int y3), (4, .int y4)] dX10_movedBy_70 6 rfl (by first | rfl | decide) (by decide) rfl ?_
        refine gz_goto K 6 dX10_movedBy_73 (by decide) ?_
        refine gz_sub [2, 3, 4, 5, 6, 1, 0] rfl ?_
        exact ih_6 y1 y2 y3 y4 (z1 + z0) (y6 + 1)  hp
      refine gz_iload K dX10_movedBy_6 6 rfl ?_
      refine gz_aload_n K dX10_movedBy_8 0 rfl ?_
      refine gz_get K (v := .int (gz_i σ 43 1)) (by decide) (ce_43 _ _ _ _ _ _) rfl inz_X10 1 (by decide) zq5_32 rfl dX10_movedBy_9 ?_
      refine gz_icmp_gt K 76 dX10_movedBy_12 (by decide) (fun h => ?_) (fun h => ?_)
      · have hp := hp.1 h
        refine gz_iload K dX10_movedBy_76 5 rfl ?_
        exact gz_iret K hr ⟨rfl, hp⟩ dX10_movedBy_78 (Nat.le_of_ble_eq_true rfl) (Nat.le_of_ble_eq_true rfl)
      · have hp := hp.2 h
        refine gz_aload_n K dX10_movedBy_15 0 rfl ?_
        refine gz_iload_n K dX10_movedBy_16 3 rfl ?_
        refine gz_iload K dX10_movedBy_17 4 rfl ?_
        refine gz_iconst K (v := (0 : Int32)) dX10_movedBy_19 (by decide) ?_
        refine gz_aload_n K dX10_movedBy_20 0 rfl ?_
        refine gz_iload_n K dX10_movedBy_21 1 rfl ?_
        refine gz_iload_n K dX10_movedBy_22 2 rfl ?_
        refine gz_iconst K (v := (0 : Int32)) dX10_movedBy_23 (by decide) ?_
        refine gz_iload K dX10_movedBy_24 6 rfl ?_
        refine gz_callV K hex (c_X10_shortLed K.2.2.2.2.2 K.2.2.1 hp) cf_X10_shortLed zq6_130 (by decide) (ce_43 _ _ _ _ _ _) rfl dX10_movedBy_26 rfl rfl (Nat.le_of_ble_eq_true rfl) ⟨Nat.le_of_ble_eq_true rfl, Nat.le_of_ble_eq_true rfl⟩ ⟨Nat.le_of_ble_eq_true rfl, Nat.le_of_ble_eq_true rfl⟩ (Nat.le_of_ble_eq_true rfl) (Nat.le_of_ble_eq_true rfl) (fun _ _ h => h.elim) (fun r26 τ hp => ?_)
        obtain ⟨rfl, hp⟩ := hp
        refine gz_norm (st' := [.int r26, .int (0 : Int32), .int y4, .int y3, .ref (ad 43)]) (cells' := 0) (slots' := 0) rfl rfl rfl ?_
        refine gz_callV K hex (c_X10_shortLed K.2.2.2.2.2 K.2.2.1 hp) cf_X10_shortLed zq6_130 (by decide) (ce_43 _ _ _ _ _ _) rfl dX10_movedBy_29 rfl rfl (Nat.le_of_ble_eq_true rfl) ⟨Nat.le_of_ble_eq_true rfl, Nat.le_of_ble_eq_true rfl⟩ ⟨Nat.le_of_ble_eq_true rfl, Nat.le_of_ble_eq_true rfl⟩ (Nat.le_of_ble_eq_true rfl) (Nat.le_of_ble_eq_true rfl) (fun _ _ h => h.elim) (fun r29 τ hp => ?_)
        obtain ⟨rfl, hp⟩ := hp
        refine gz_norm (st' := [.int r29]) (cells' := 0) (slots' := 0) rfl rfl rfl ?_
        refine gz_istore K [(7, .int r29), (0, .ref (ad 43)), (1, .int y1), (2, .int y2), (3, .int y3), (4, .int y4), (5, .int y5), (6, .int y6)] dX10_movedBy_32 (by decide) rfl ?_
        refine gz_aload_n K dX10_movedBy_34 1 rfl ?_
        refine gz_iload_n K dX10_movedBy_35 4 rfl ?_
        refine gz_iload K dX10_movedBy_36 5 rfl ?_
        refine gz_iconst K (v := (1 : Int32)) dX10_movedBy_38 (by decide) ?_
        refine gz_aload_n K dX10_movedBy_39 1 rfl ?_
        refine gz_iload_n K dX10_movedBy_40 2 rfl ?_
        refine gz_iload_n K dX10_movedBy_41 3 rfl ?_
        refine gz_iconst K (v := (1 : Int32)) dX10_movedBy_42 (by decide) ?_
        refine gz_iload K dX10_movedBy_43 0 rfl ?_
        refine gz_callV K hex (c_X10_shortLed K.2.2.2.2.2 K.2.2.1 hp) cf_X10_shortLed zq6_130 (by decide) (ce_43 _ _ _ _ _ _) rfl dX10_movedBy_45 rfl rfl (Nat.le_of_ble_eq_true rfl) ⟨Nat.le_of_ble_eq_true rfl, Nat.le_of_ble_eq_true rfl⟩ ⟨Nat.le_of_ble_eq_true rfl, Nat.le_of_ble_eq_true rfl⟩ (Nat.le_of_ble_eq_true rfl) (Nat.le_of_ble_eq_true rfl) (fun _ _ h => h.elim) (fun r45 τ hp => ?_)
        obtain ⟨rfl, hp⟩ := hp
        refine gz_norm (st' := [.int r45, .int (1 : Int32), .int y4, .int y3, .ref (ad 43)]) (cells' := 0) (slots' := 0) rfl rfl rfl ?_
        refine gz_callV K hex (c_X10_shortLed K.2.2.2.2.2 K.2.2.1 hp) cf_X10_shortLed zq6_130 (by decide) (ce_43 _ _ _ _ _ _) rfl dX10_movedBy_48 rfl rfl (Nat.le_of_ble_eq_true rfl) ⟨Nat.le_of_ble_eq_true rfl, Nat.le_of_ble_eq_true rfl⟩ ⟨Nat.le_of_ble_eq_true rfl, Nat.le_of_ble_eq_true rfl⟩ (Nat.le_of_ble_eq_true rfl) (Nat.le_of_ble_eq_true rfl) (fun _ _ h => h.elim) (fun r48 τ hp => ?_)
        obtain ⟨rfl, hp⟩ := hp
        refine gz_norm (st' := [.int r48]) (cells' := 0) (slots' := 0) rfl rfl rfl ?_
        refine gz_istore K [(7, .int r48), (0, .ref (ad 43)), (1, .int y1), (2, .int y2), (3, .int y3), (4, .int y4), (5, .int y5), (6, .int y6)] dX10_movedBy_51 (by decide) rfl ?_
        refine gz_iload K dX10_movedBy_53 6 rfl ?_
        refine gz_iload K dX10_movedBy_55 0 rfl ?_
        refine gz_iload K dX10_movedBy_57 7 rfl ?_
        refine gz_icmp_eq K 66 dX10_movedBy_59 (by decide) (fun h => ?_) (fun h => ?_)
        · have hp := hp.1 h
          refine gz_iconst K (v := (0 : Int32)) dX10_movedBy_66 (by decide) ?_
          refine gz_sub [1, 2, 3, 4, 5, 7] rfl ?_
          exact bb_67 y1 y2 y3 y4 y6 (0 : Int32) y5  hp
        · have hp := hp.2 h
          refine gz_iconst K (v := (1 : Int32)) dX10_movedBy_62 (by decide) ?_
          refine gz_goto K 67 dX10_movedBy_63 (by decide) ?_
          refine gz_sub [1, 2, 3, 4, 5, 7] rfl ?_
          exact bb_67 y1 y2 y3 y4 y6 (1 : Int32) y5  hp
  obtain ⟨n, hp⟩ := hp
  exact ll_6 n x1 x2 x3 x4 (0 : Int32) (1 : Int32)  hp
set_option maxRecDepth 100000 in
set_option maxHeartbeats 4000000 in
theorem c_X10_comesShort {l : Launch} {D : va_G} {ad : Nat → Nat} {ty : Nat → ClassId} (hl : l.stackTraces = false) (hj : ∀ i j, i < 68 → j < 68 → ad i = ad j → i = j) {σ : Dz} {x1 : Int32} {x2 : Int32} {x3 : Int32} {post : Dz → Prop} (hp : P_X10_comesShort σ x1 x2 x3 post) : Mz l D ad ty yX10_comesShort cX10_comesShort 4 none r_X10_comesShort nV0 σ [.ref (ad 43), .int x1, .int x2, .int x3] (fun _ τ => post τ) (fun _ _ => False) := by
  refine mz_of (by decide) hl hj (Nat.le_of_ble_eq_true rfl) ?_
  intro p e s m args below meth c K hex hr
  unfold P_X10_comesShort at hp
  have bb_41 : ∀ (σ : Dz) (y2 : Int32) (y3 : Int32) (z0 : Int32) , B_X10_comesShort_41 post  σ y2 y3 z0 → Gz p l e r_X10_comesShort s m args below meth c D ad ty 4 0 0 (Ez below D ad ty nV0 (fun _ τ => post τ) (fun _ _ => False) args s 0 0) σ 41 [(0, .ref (ad 43)), (2, .int y2), (3, .int y3)] [.int z0, .ref (ad 43)] := by
    intro σ y2 y3 z0 hp
    unfold B_X10_comesShort_41 at hp
    refine gz_callV K hex (c_X10_comes K.2.2.2.2.2 K.2.2.1 hp) cf_X10_comes zq5_202 (by decide) (ce_43 _ _ _ _ _ _) rfl dX10_comesShort_41 rfl rfl (Nat.le_of_ble_eq_true rfl) ⟨Nat.le_of_ble_eq_true rfl, Nat.le_of_ble_eq_true rfl⟩ ⟨Nat.le_of_ble_eq_true rfl, Nat.le_of_ble_eq_true rfl⟩ (Nat.le_of_ble_eq_true rfl) (Nat.le_of_ble_eq_true rfl) (fun _ _ h => h.elim) (fun _ τ41 hp => ?_)
    refine gz_norm (st' := []) (cells' := 0) (slots' := 0) rfl rfl rfl ?_
    refine gz_aload_n K dX10_comesShort_44 0 rfl ?_
    refine gz_iload_n K dX10_comesShort_45 2 rfl ?_
    refine gz_if_eq K 58 dX10_comesShort_46 (by decide) (fun h => ?_) (fun h => ?_)
    · have hp := hp.1 h
      refine gz_iload_n K dX10_comesShort_58 1 rfl ?_
      refine gz_bipush K (v := (10 : Int32)) dX10_comesShort_59 (by decide) ?_
      refine gz_irem K dX10_comesShort_61 (by decide) ?_
      refine gz_callV K hex (c_X10_comes K.2.2.2.2.2 K.2.2.1 hp) cf_X10_comes zq5_202 (by decide) (ce_43 _ _ _ _ _ _) rfl dX10_comesShort_62 rfl rfl (Nat.le_of_ble_eq_true rfl) ⟨Nat.le_of_ble_eq_true rfl, Nat.le_of_ble_eq_true rfl⟩ ⟨Nat.le_of_ble_eq_true rfl, Nat.le_of_ble_eq_true rfl⟩ (Nat.le_of_ble_eq_true rfl) (Nat.le_of_ble_eq_true rfl) (fun _ _ h => h.elim) (fun _ τ62 hp => ?_)
      refine gz_norm (st' := []) (cells' := 0) (slots' := 0) rfl rfl rfl ?_
      exact gz_vret K hr hp dX10_comesShort_65 (Nat.le_of_ble_eq_true rfl) (Nat.le_of_ble_eq_true rfl)
    · have hp := hp.2 h
      refine gz_iload_n K dX10_comesShort_49 1 rfl ?_
      refine gz_bipush K (v := (10 : Int32)) dX10_comesShort_50 (by decide) ?_
      refine gz_idiv K dX10_comesShort_52 (by decide) ?_
      refine gz_iconst K (v := (1 : Int32)) dX10_comesShort_53 (by decide) ?_
      refine gz_ixor K dX10_comesShort_54 ?_
      refine gz_goto K 62 dX10_comesShort_55 (by decide) ?_
      refine gz_callV K hex (c_X10_comes K.2.2.2.2.2 K.2.2.1 hp) cf_X10_comes zq5_202 (by decide) (ce_43 _ _ _ _ _ _) rfl dX10_comesShort_62 rfl rfl (Nat.le_of_ble_eq_true rfl) ⟨Nat.le_of_ble_eq_true rfl, Nat.le_of_ble_eq_true rfl⟩ ⟨Nat.le_of_ble_eq_true rfl, Nat.le_of_ble_eq_true rfl⟩ (Nat.le_of_ble_eq_true rfl) (Nat.le_of_ble_eq_true rfl) (fun _ _ h => h.elim) (fun _ τ62 hp => ?_)
      refine gz_norm (st' := []) (cells' := 0) (slots' := 0) rfl rfl rfl ?_
      exact gz_vret K hr hp dX10_comesShort_65 (Nat.le_of_ble_eq_true rfl) (Nat.le_of_ble_eq_true rfl)
  show Gz p l e r_X10_comesShort s m args below meth c D ad ty 4 0 0 (Ez below D ad ty nV0 (fun _ τ => post τ) (fun _ _ => False) args s 0 0) σ 0 [(0, .ref (ad 43)), (1, .int x1), (2, .int x2), (3, .int x3)] []
  refine gz_iload_n K dX10_comesShort_0 1 rfl ?_
  refine gz_iconst K (v := (1 : Int32)) dX10_comesShort_1 (by decide) ?_
  refine gz_icmp_ne K 23 dX10_comesShort_2 (by decide) (fun h => ?_) (fun h => ?_)
  · have hp := hp.1 h
    refine gz_aload_n K dX10_comesShort_23 0 rfl ?_
    refine gz_iload_n K dX10_comesShort_24 3 rfl ?_
    refine gz_if_eq K 37 dX10_comesShort_25 (by decide) (fun h => ?_) (fun h => ?_)
    · have hp := hp.1 h
      refine gz_iload_n K dX10_comesShort_37 2 rfl ?_
      refine gz_bipush K (v := (10 : Int32)) dX10_comesShort_38 (by decide) ?_
      refine gz_idiv K dX10_comesShort_40 (by decide) ?_
      refine gz_sub [0, 2, 3] rfl ?_
      exact bb_41 σ x2 x3 (x2 / (10 : Int32))  hp
    · have hp := hp.2 h
      refine gz_iload_n K dX10_comesShort_28 2 rfl ?_
      refine gz_bipush K (v := (10 : Int32)) dX10_comesShort_29 (by decide) ?_
      refine gz_irem K dX10_comesShort_31 (by decide) ?_
      refine gz_iconst K (v := (1 : Int32)) dX10_comesShort_32 (by decide) ?_
      refine gz_ixor K dX10_comesShort_33 ?_
      refine gz_goto K 41 dX10_comesShort_34 (by decide) ?_
      refine gz_sub [0, 2, 3] rfl ?_
      exact bb_41 σ x2 x3 ((x2 - x2 / (10 : Int32) * (10 : Int32)) ^^^ (1 : Int32))  hp
  · have hp := hp.2 h
    refine gz_aload_n K dX10_comesShort_5 0 rfl ?_
    refine gz_iload_n K dX10_comesShort_6 3 rfl ?_
    refine gz_if_eq K 16 dX10_comesShort_7 (by decide) (fun h => ?_) (fun h => ?_)
    · have hp := hp.1 h
      refine gz_iload_n K dX10_comesShort_16 2 rfl ?_
      refine gz_callV K hex (c_X10_comes K.2.2.2.2.2 K.2.2.1 hp) cf_X10_comes zq5_202 (by decide) (ce_43 _ _ _ _ _ _) rfl dX10_comesShort_17 rfl rfl (Nat.le_of_ble_eq_true rfl) ⟨Nat.le_of_ble_eq_true rfl, Nat.le_of_ble_eq_true rfl⟩ ⟨Nat.le_of_ble_eq_true rfl, Nat.le_of_ble_eq_true rfl⟩ (Nat.le_of_ble_eq_true rfl) (Nat.le_of_ble_eq_true rfl) (fun _ _ h => h.elim) (fun _ τ17 hp => ?_)
      refine gz_norm (st' := []) (cells' := 0) (slots' := 0) rfl rfl rfl ?_
      refine gz_goto K 65 dX10_comesShort_20 (by decide) ?_
      exact gz_vret K hr hp dX10_comesShort_65 (Nat.le_of_ble_eq_true rfl) (Nat.le_of_ble_eq_true rfl)
    · have hp := hp.2 h
      refine gz_iload_n K dX10_comesShort_10 2 rfl ?_
      refine gz_iconst K (v := (1 : Int32)) dX10_comesShort_11 (by decide) ?_
      refine gz_ixor K dX10_comesShort_12 ?_
      refine gz_goto K 17 dX10_comesShort_13 (by decide) ?_
      refine gz_callV K hex (c_X10_comes K.2.2.2.2.2 K.2.2.1 hp) cf_X10_comes zq5_202 (by decide) (ce_43 _ _ _ _ _ _) rfl dX10_comesShort_17 rfl rfl (Nat.le_of_ble_eq_true rfl) ⟨Nat.le_of_ble_eq_true rfl, Nat.le_of_ble_eq_true rfl⟩ ⟨Nat.le_of_ble_eq_true rfl, Nat.le_of_ble_eq_true rfl⟩ (Nat.le_of_ble_eq_true rfl) (Nat.le_of_ble_eq_true rfl) (fun _ _ h => h.elim) (fun _ τ17 hp => ?_)
      refine gz_norm (st' := []) (cells' := 0) (slots' := 0) rfl rfl rfl ?_
      refine gz_goto K 65 dX10_comesShort_20 (by decide) ?_
      exact gz_vret K hr hp dX10_comesShort_65 (Nat.le_of_ble_eq_true rfl) (Nat.le_of_ble_eq_true rfl)
set_option maxRecDepth 100000 in
set_option maxHeartbeats 4000000 in
theorem c_X10_finds {l : Launch} {D : va_G} {ad : Nat → Nat} {ty : Nat → ClassId} (hl : l.stackTraces = false) (hj : ∀ i j, i < 68 → j < 68 → ad i = ad j → i = j) {σ : Dz} {x1 : Int32} {x2 : Int32} {x3 : Int32} {x4 : Int32} {post : Int32 → Dz → Prop} (hp : P_X10_finds σ x1 x2 x3 x4 post) : Mz l D ad ty yX10_finds cX10_finds 9 (some .boolean) r_X10_finds nI0 σ [.ref (ad 43), .int x1, .int x2, .int x3, .int x4] post (fun _ _ => False) := by
  refine mz_of (by decide) hl hj (Nat.le_of_ble_eq_true rfl) ?_
  intro p e s m args below meth c K hex hr
  unfold P_X10_finds at hp
  have bb_27 : ∀ (σ : Dz) (y2 : Int32) (y3 : Int32) (y4 : Int32) (y5 : Int32) (z0 : Int32) , B_X10_finds_27 post  σ y2 y3 y4 y5 z0 → Gz p l e r_X10_finds s m args below meth c D ad ty 9 0 0 (Ez below D ad ty nI0 post (fun _ _ => False) args s 0 0) σ 27 [(0, .ref (ad 43)), (2, .int y2), (3, .int y3), (4, .int y4), (5, .int y5)] [.int z0] := by
    intro σ y2 y3 y4 y5 z0 hp
    unfold B_X10_finds_27 at hp
    refine gz_istore K [(6, .int z0), (0, .ref (ad 43)), (2, .int y2), (3, .int y3), (4, .int y4), (5, .int y5)] dX10_finds_27 (by decide) rfl ?_
    refine gz_iconst K (v := (0 : Int32)) dX10_finds_29 (by decide) ?_
    refine gz_istore K [(7, .int (0 : Int32)), (6, .int z0), (0, .ref (ad 43)), (2, .int y2), (3, .int y3), (4, .int y4), (5, .int y5)] dX10_finds_30 (by decide) rfl ?_
    refine gz_sub [2, 3, 4, 5, 6, 1, 0] rfl ?_
    have ll_32 : ∀ (n_32 : Nat) (σ : Dz) (y2 : Int32) (y3 : Int32) (y4 : Int32) (y5 : Int32) (y6 : Int32) (y7 : Int32) , L_X10_finds_32 post  n_32 σ y2 y3 y4 y5 y6 y7 → Gz p l e r_X10_finds s m args below meth c D ad ty 9 0 0 (Ez below D ad ty nI0 post (fun _ _ => False) args s 0 0) σ 32 [(0, .ref (ad 43)), (2, .int y2), (3, .int y3), (4, .int y4), (5, .int y5), (6, .int y6), (7, .int y7)] [] := by
      intro n_32; induction n_32 with
      | zero => intro σ y2 y3 y4 y5 y6 y7 hp; exact False.elim hp
      | succ n_32 ih_32 =>
        intro σ y2 y3 y4 y5 y6 y7 hp
        have hp : B_X10_finds_32 post  (L_X10_finds_32 post  n_32) σ y2 y3 y4 y5 y6 y7 := hp
        unfold B_X10_finds_32 at hp
        have bb_131 : ∀ (σ : Dz) (y2 : Int32) (y3 : Int32) (y4 : Int32) (y5 : Int32) (y6 : Int32) (y7 : Int32) , B_X10_finds_131 post (L_X10_finds_32 post  n_32) σ y2 y3 y4 y5 y6 y7 → Gz p l e r_X10_finds s m args below meth c D ad ty 9 0 0 (Ez below D ad ty nI0 post (fun _ _ => False) args s 0 0) σ 131 [(0, .ref (ad 43)), (2, .int y2), (3, .int y3), (4, .int y4), (5, .int y5), (6, .int y6), (7, .int y7)] [] := by
          intro σ y2 y3 y4 y5 y6 y7 hp
          unfold B_X10_finds_131 at hp
          refine gz_iinc K (v := (y7 + 1)) [(7, .int (y7 + 1)), (0, .ref (ad 43)), (2, .int y2), (3, .int y3), (4, .int y4), (5, .int y5), (6, .int y6)] dX10_finds_131 6 rfl (by first | rfl | decide) (by decide) rfl ?_
          refine gz_goto K 32 dX10_finds_134 (by decide) ?_
          refine gz_sub [1, 2, 3, 4, 5, 6, 0] rfl ?_
          exact ih_32 σ y2 y3 y4 y5 y6 (y7 + 1)  hp
        refine gz_iload K dX10_finds_32 6 rfl ?_
        refine gz_iload K dX10_finds_34 4 rfl ?_
        refine gz_icmp_ge K 137 dX10_finds_36 (by decide) (fun h => ?_) (fun h => ?_)
        · have hp := hp.1 h
          refine gz_iconst K (v := (0 : Int32)) dX10_finds_137 (by decide) ?_
          exact gz_zret K hr (by decide) hp dX10_finds_138 (Nat.le_of_ble_eq_true rfl) (Nat.le_of_ble_eq_true rfl)
        · have hp := hp.2 h
          refine gz_iconst K (v := (0 : Int32)) dX10_finds_39 (by decide) ?_
          refine gz_istore K [(8, .int (0 : Int32)), (0, .ref (ad 43)), (2, .int y2), (3, .int y3), (4, .int y4), (5, .int y5), (6, .int y6), (7, .int y7)] dX10_finds_40 (by decide) rfl ?_
          refine gz_sub [1, 2, 3, 4, 5, 6, 7, 0] rfl ?_
          have ll_42 : ∀ (n_42 : Nat) (σ : Dz) (y2 : Int32) (y3 : Int32) (y4 : Int32) (y5 : Int32) (y6 : Int32) (y7 : Int32) (y8 : Int32) , L_X10_finds_42 post (L_X10_finds_32 post  n_32) n_42 σ y2 y3 y4 y5 y6 y7 y8 → Gz p l e r_X10_finds s m args below meth c D ad ty 9 0 0 (Ez below D ad ty nI0 post (fun _ _ => False) args s 0 0) σ 42 [(0, .ref (ad 43)), (2, .int y2), (3, .int y3), (4, .int y4), (5, .int y5), (6, .int y6), (7, .int y7), (8, .int y8)] [] := by
            intro n_42; induction n_42 with
            | zero => intro σ y2 y3 y4 y5 y6 y7 y8 hp; exact False.elim hp
            | succ n_42 ih_42 =>
              intro σ y2 y3 y4 y5 y6 y7 y8 hp
              have hp : B_X10_finds_42 post (L_X10_finds_32 post  n_32) (L_X10_finds_42 post (L_X10_finds_32 post  n_32) n_42) σ y2 y3 y4 y5 y6 y7 y8 := hp
              unfold B_X10_finds_42 at hp
              have bb_125 : ∀ (σ : Dz) (y2 : Int32) (y3 : Int32) (y4 : Int32) (y5 : Int32) (y6 : Int32) (y7 : Int32) (y8 : Int32) , B_X10_finds_125 post (L_X10_finds_32 post  n_32) (L_X10_finds_42 post (L_X10_finds_32 post  n_32) n_42) σ y2 y3 y4 y5 y6 y7 y8 → Gz p l e r_X10_finds s m args below meth c D ad ty 9 0 0 (Ez below D ad ty nI0 post (fun _ _ => False) args s 0 0) σ 125 [(0, .ref (ad 43)), (2, .int y2), (3, .int y3), (4, .int y4), (5, .int y5), (6, .int y6), (7, .int y7), (8, .int y8)] [] := by
                intro σ y2 y3 y4 y5 y6 y7 y8 hp
                unfold B_X10_finds_125 at hp
                refine gz_iinc K (v := (y8 + 1)) [(8, .int (y8 + 1)), (0, .ref (ad 43)), (2, .int y2), (3, .int y3), (4, .int y4), (5, .int y5), (6, .int y6), (7, .int y7)] dX10_finds_125 7 rfl (by first | rfl | decide) (by decide) rfl ?_
                refine gz_goto K 42 dX10_finds_128 (by decide) ?_
                refine gz_sub [1, 2, 3, 4, 5, 6, 7, 0] rfl ?_
                exact ih_42 σ y2 y3 y4 y5 y6 y7 (y8 + 1)  hp
              refine gz_iload K dX10_finds_42 7 rfl ?_
              refine gz_iload K dX10_finds_44 5 rfl ?_
              refine gz_icmp_ge K 131 dX10_finds_46 (by decide) (fun h => ?_) (fun h => ?_)
              · have hp := hp.1 h
                refine gz_sub [0, 1, 2, 3, 4, 5, 6] rfl ?_
                exact bb_131 σ y2 y3 y4 y5 y6 y7  hp
              · have hp := hp.2 h
                refine gz_aload_n K dX10_finds_49 0 rfl ?_
                refine gz_iload_n K dX10_finds_50 2 rfl ?_
                refine gz_iload K dX10_finds_51 6 rfl ?_
                refine gz_callV K hex (c_X10_isShort K.2.2.2.2.2 K.2.2.1 hp) cf_X10_isShort zq6_122 (by decide) (ce_43 _ _ _ _ _ _) rfl dX10_finds_53 rfl rfl (Nat.le_of_ble_eq_true rfl) ⟨Nat.le_of_ble_eq_true rfl, Nat.le_of_ble_eq_true rfl⟩ ⟨Nat.le_of_ble_eq_true rfl, Nat.le_of_ble_eq_true rfl⟩ (Nat.le_of_ble_eq_true rfl) (Nat.le_of_ble_eq_true rfl) (fun _ _ h => h.elim) (fun r53 τ hp => ?_)
                obtain ⟨rfl, hp⟩ := hp
                refine gz_norm (st' := [.int r53]) (cells' := 0) (slots' := 0) rfl rfl rfl ?_
                refine gz_if_eq K 131 dX10_finds_56 (by decide) (fun h => ?_) (fun h => ?_)
                · have hp := hp.1 h
                  refine gz_sub [0, 1, 2, 3, 4, 5, 6] rfl ?_
                  exact bb_131 σ y2 y3 y4 y5 y6 y7  hp
                · have hp := hp.2 h
                  refine gz_aload_n K dX10_finds_59 0 rfl ?_
                  refine gz_iload K dX10_finds_60 3 rfl ?_
                  refine gz_iload K dX10_finds_62 7 rfl ?_
                  refine gz_callV K hex (c_X10_isShort K.2.2.2.2.2 K.2.2.1 hp) cf_X10_isShort zq6_122 (by decide) (ce_43 _ _ _ _ _ _) rfl dX10_finds_64 rfl rfl (Nat.le_of_ble_eq_true rfl) ⟨Nat.le_of_ble_eq_true rfl, Nat.le_of_ble_eq_true rfl⟩ ⟨Nat.le_of_ble_eq_true rfl, Nat.le_of_ble_eq_true rfl⟩ (Nat.le_of_ble_eq_true rfl) (Nat.le_of_ble_eq_true rfl) (fun _ _ h => h.elim) (fun r64 τ hp => ?_)
                  obtain ⟨rfl, hp⟩ := hp
                  refine gz_norm (st' := [.int r64]) (cells' := 0) (slots' := 0) rfl rfl rfl ?_
                  refine gz_if_eq K 125 dX10_finds_67 (by decide) (fun h => ?_) (fun h => ?_)
                  · have hp := hp.1 h
                    exact bb_125 σ y2 y3 y4 y5 y6 y7 y8  hp
                  · have hp := hp.2 h
                    refine gz_aload_n K dX10_finds_70 0 rfl ?_
                    refine gz_iload_n K dX10_finds_71 2 rfl ?_
                    refine gz_iload K dX10_finds_72 6 rfl ?_
                    refine gz_iload K dX10_finds_74 3 rfl ?_
                    refine gz_iload K dX10_finds_76 7 rfl ?_
                    refine gz_callV K hex (c_X10_movedBy K.2.2.2.2.2 K.2.2.1 hp) cf_X10_movedBy zq6_126 (by decide) (ce_43 _ _ _ _ _ _) rfl dX10_finds_78 rfl rfl (Nat.le_of_ble_eq_true rfl) ⟨Nat.le_of_ble_eq_true rfl, Nat.le_of_ble_eq_true rfl⟩ ⟨Nat.le_of_ble_eq_true rfl, Nat.le_of_ble_eq_true rfl⟩ (Nat.le_of_ble_eq_true rfl) (Nat.le_of_ble_eq_true rfl) (fun _ _ h => h.elim) (fun r78 τ hp => ?_)
                    obtain ⟨rfl, hp⟩ := hp
                    refine gz_norm (st' := [.int r78]) (cells' := 0) (slots' := 0) rfl rfl rfl ?_
                    refine gz_iload_n K dX10_finds_81 1 rfl ?_
                    refine gz_icmp_ne K 125 dX10_finds_82 (by decide) (fun h => ?_) (fun h => ?_)
                    · have hp := hp.1 h
                      exact bb_125 σ y2 y3 y4 y5 y6 y7 y8  hp
                    · have hp := hp.2 h
                      refine gz_aload_n K dX10_finds_85 0 rfl ?_
                      refine gz_callV K hex (c_X10_clears K.2.2.2.2.2 K.2.2.1 hp) cf_X10_clears zq5_192 (by decide) (ce_43 _ _ _ _ _ _) rfl dX10_finds_86 rfl rfl (Nat.le_of_ble_eq_true rfl) ⟨Nat.le_of_ble_eq_true rfl, Nat.le_of_ble_eq_true rfl⟩ ⟨Nat.le_of_ble_eq_true rfl, Nat.le_of_ble_eq_true rfl⟩ (Nat.le_of_ble_eq_true rfl) (Nat.le_of_ble_eq_true rfl) (fun _ _ h => h.elim) (fun _ τ86 hp => ?_)
                      refine gz_norm (st' := []) (cells' := 0) (slots' := 0) rfl rfl rfl ?_
                      refine gz_aload_n K dX10_finds_89 0 rfl ?_
                      refine gz_iload_n K dX10_finds_90 2 rfl ?_
                      refine gz_iload K dX10_finds_91 6 rfl ?_
                      refine gz_iconst K (v := (0 : Int32)) dX10_finds_93 (by decide) ?_
                      refine gz_callV K hex (c_X10_comesShort K.2.2.2.2.2 K.2.2.1 hp) cf_X10_comesShort zq6_134 (by decide) (ce_43 _ _ _ _ _ _) rfl dX10_finds_94 rfl rfl (Nat.le_of_ble_eq_true rfl) ⟨Nat.le_of_ble_eq_true rfl, Nat.le_of_ble_eq_true rfl⟩ ⟨Nat.le_of_ble_eq_true rfl, Nat.le_of_ble_eq_true rfl⟩ (Nat.le_of_ble_eq_true rfl) (Nat.le_of_ble_eq_true rfl) (fun _ _ h => h.elim) (fun _ τ94 hp => ?_)
                      refine gz_norm (st' := []) (cells' := 0) (slots' := 0) rfl rfl rfl ?_
                      refine gz_aload_n K dX10_finds_97 0 rfl ?_
                      refine gz_iload K dX10_finds_98 3 rfl ?_
                      refine gz_iload K dX10_finds_100 7 rfl ?_
                      refine gz_iconst K (v := (0 : Int32)) dX10_finds_102 (by decide) ?_
                      refine gz_callV K hex (c_X10_comesShort K.2.2.2.2.2 K.2.2.1 hp) cf_X10_comesShort zq6_134 (by decide) (ce_43 _ _ _ _ _ _) rfl dX10_finds_103 rfl rfl (Nat.le_of_ble_eq_true rfl) ⟨Nat.le_of_ble_eq_true rfl, Nat.le_of_ble_eq_true rfl⟩ ⟨Nat.le_of_ble_eq_true rfl, Nat.le_of_ble_eq_true rfl⟩ (Nat.le_of_ble_eq_true rfl) (Nat.le_of_ble_eq_true rfl) (fun _ _ h => h.elim) (fun _ τ103 hp => ?_)
                      refine gz_norm (st' := []) (cells' := 0) (slots' := 0) rfl rfl rfl ?_
                      refine gz_aload_n K dX10_finds_106 0 rfl ?_
                      refine gz_iload_n K dX10_finds_107 2 rfl ?_
                      refine gz_iload K dX10_finds_108 6 rfl ?_
                      refine gz_iconst K (v := (1 : Int32)) dX10_finds_110 (by decide) ?_
                      refine gz_callV K hex (c_X10_comesShort K.2.2.2.2.2 K.2.2.1 hp) cf_X10_comesShort zq6_134 (by decide) (ce_43 _ _ _ _ _ _) rfl dX10_finds_111 rfl rfl (Nat.le_of_ble_eq_true rfl) ⟨Nat.le_of_ble_eq_true rfl, Nat.le_of_ble_eq_true rfl⟩ ⟨Nat.le_of_ble_eq_true rfl, Nat.le_of_ble_eq_true rfl⟩ (Nat.le_of_ble_eq_true rfl) (Nat.le_of_ble_eq_true rfl) (fun _ _ h => h.elim) (fun _ τ111 hp => ?_)
                      refine gz_norm (st' := []) (cells' := 0) (slots' := 0) rfl rfl rfl ?_
                      refine gz_aload_n K dX10_finds_114 0 rfl ?_
                      refine gz_iload K dX10_finds_115 3 rfl ?_
                      refine gz_iload K dX10_finds_117 7 rfl ?_
                      refine gz_iconst K (v := (1 : Int32)) dX10_finds_119 (by decide) ?_
                      refine gz_callV K hex (c_X10_comesShort K.2.2.2.2.2 K.2.2.1 hp) cf_X10_comesShort zq6_134 (by decide) (ce_43 _ _ _ _ _ _) rfl dX10_finds_120 rfl rfl (Nat.le_of_ble_eq_true rfl) ⟨Nat.le_of_ble_eq_true rfl, Nat.le_of_ble_eq_true rfl⟩ ⟨Nat.le_of_ble_eq_true rfl, Nat.le_of_ble_eq_true rfl⟩ (Nat.le_of_ble_eq_true rfl) (Nat.le_of_ble_eq_true rfl) (fun _ _ h => h.elim) (fun _ τ120 hp => ?_)
                      refine gz_norm (st' := []) (cells' := 0) (slots' := 0) rfl rfl rfl ?_
                      refine gz_iconst K (v := (1 : Int32)) dX10_finds_123 (by decide) ?_
                      exact gz_zret K hr (by decide) hp dX10_finds_124 (Nat.le_of_ble_eq_true rfl) (Nat.le_of_ble_eq_true rfl)
          obtain ⟨n, hp⟩ := hp
          exact ll_42 n σ y2 y3 y4 y5 y6 y7 (0 : Int32)  hp
    obtain ⟨n, hp⟩ := hp
    exact ll_32 n σ y2 y3 y4 y5 z0 (0 : Int32)  hp
  have bb_12 : ∀ (σ : Dz) (y2 : Int32) (y3 : Int32) (y4 : Int32) (z0 : Int32) , B_X10_finds_12 post  σ y2 y3 y4 z0 → Gz p l e r_X10_finds s m args below meth c D ad ty 9 0 0 (Ez below D ad ty nI0 post (fun _ _ => False) args s 0 0) σ 12 [(0, .ref (ad 43)), (2, .int y2), (3, .int y3), (4, .int y4)] [.int z0] := by
    intro σ y2 y3 y4 z0 hp
    unfold B_X10_finds_12 at hp
    refine gz_istore K [(5, .int z0), (0, .ref (ad 43)), (2, .int y2), (3, .int y3), (4, .int y4)] dX10_finds_12 (by decide) rfl ?_
    refine gz_iload K dX10_finds_14 4 rfl ?_
    refine gz_iconst K (v := (1 : Int32)) dX10_finds_16 (by decide) ?_
    refine gz_icmp_ne K 25 dX10_finds_17 (by decide) (fun h => ?_) (fun h => ?_)
    · have hp := hp.1 h
      refine gz_bipush K (v := (100 : Int32)) dX10_finds_25 (by decide) ?_
      refine gz_sub [1, 2, 3, 4, 0] rfl ?_
      exact bb_27 σ y2 y3 y4 z0 (100 : Int32)  hp
    · have hp := hp.2 h
      refine gz_bipush K (v := (10 : Int32)) dX10_finds_20 (by decide) ?_
      refine gz_goto K 27 dX10_finds_22 (by decide) ?_
      refine gz_sub [1, 2, 3, 4, 0] rfl ?_
      exact bb_27 σ y2 y3 y4 z0 (10 : Int32)  hp
  show Gz p l e r_X10_finds s m args below meth c D ad ty 9 0 0 (Ez below D ad ty nI0 post (fun _ _ => False) args s 0 0) σ 0 [(0, .ref (ad 43)), (1, .int x1), (2, .int x2), (3, .int x3), (4, .int x4)] []
  refine gz_iload_n K dX10_finds_0 3 rfl ?_
  refine gz_iconst K (v := (1 : Int32)) dX10_finds_1 (by decide) ?_
  refine gz_icmp_ne K 10 dX10_finds_2 (by decide) (fun h => ?_) (fun h => ?_)
  · have hp := hp.1 h
    refine gz_bipush K (v := (100 : Int32)) dX10_finds_10 (by decide) ?_
    refine gz_sub [0, 2, 3, 4] rfl ?_
    exact bb_12 σ x2 x3 x4 (100 : Int32)  hp
  · have hp := hp.2 h
    refine gz_bipush K (v := (10 : Int32)) dX10_finds_5 (by decide) ?_
    refine gz_goto K 12 dX10_finds_7 (by decide) ?_
    refine gz_sub [0, 2, 3, 4] rfl ?_
    exact bb_12 σ x2 x3 x4 (10 : Int32)  hp
set_option maxRecDepth 100000 in
set_option maxHeartbeats 4000000 in
theorem c_X10_findCommutator {l : Launch} {D : va_G} {ad : Nat → Nat} {ty : Nat → ClassId} (hl : l.stackTraces = false) (hj : ∀ i j, i < 68 → j < 68 → ad i = ad j → i = j) {σ : Dz} {x1 : Int32} {x2 : Int32} {post : Int32 → Dz → Prop} (hp : P_X10_findCommutator σ x1 x2 post) : Mz l D ad ty yX10_findCommutator cX10_findCommutator 4 (some .int) r_X10_findCommutator nI0 σ [.ref (ad 43), .int x1, .int x2] post (fun _ _ => False) := by
  refine mz_of (by decide) hl hj (Nat.le_of_ble_eq_true rfl) ?_
  intro p e s m args below meth c K hex hr
  unfold P_X10_findCommutator at hp
  have bb_62 : ∀ (σ : Dz) (y1 : Int32) (z0 : Int32) , B_X10_findCommutator_62 post  σ y1 z0 → Gz p l e r_X10_findCommutator s m args below meth c D ad ty 4 0 0 (Ez below D ad ty nI0 post (fun _ _ => False) args s 0 0) σ 62 [(0, .ref (ad 43)), (1, .int y1)] [.int z0] := by
    intro σ y1 z0 hp
    unfold B_X10_findCommutator_62 at hp
    refine gz_istore_n K [(3, .int z0), (0, .ref (ad 43)), (1, .int y1)] dX10_findCommutator_62 (by decide) rfl ?_
    refine gz_iload_n K dX10_findCommutator_63 0 rfl ?_
    refine gz_if_eq K 75 dX10_findCommutator_64 (by decide) (fun h => ?_) (fun h => ?_)
    · have hp := hp.1 h
      refine gz_aload_n K dX10_findCommutator_75 1 rfl ?_
      refine gz_iconst K (v := (2 : Int32)) dX10_findCommutator_76 (by decide) ?_
      refine gz_callV K hex (c_X10_fails K.2.2.2.2.2 K.2.2.1 hp) cf_X10_fails zq5_149 (by decide) (ce_43 _ _ _ _ _ _) rfl dX10_findCommutator_77 rfl rfl (Nat.le_of_ble_eq_true rfl) ⟨Nat.le_of_ble_eq_true rfl, Nat.le_of_ble_eq_true rfl⟩ ⟨Nat.le_of_ble_eq_true rfl, Nat.le_of_ble_eq_true rfl⟩ (Nat.le_of_ble_eq_true rfl) (Nat.le_of_ble_eq_true rfl) (fun _ _ h => h.elim) (fun r77 τ77 hp => ?_)
      refine gz_norm (st' := [.int r77]) (cells' := 0) (slots' := 0) rfl rfl rfl ?_
      exact gz_iret K hr hp dX10_findCommutator_80 (Nat.le_of_ble_eq_true rfl) (Nat.le_of_ble_eq_true rfl)
    · have hp := hp.2 h
      refine gz_aload_n K dX10_findCommutator_67 1 rfl ?_
      refine gz_iload_n K dX10_findCommutator_68 2 rfl ?_
      refine gz_callV K hex (c_X10_keeps K.2.2.2.2.2 K.2.2.1 hp) cf_X10_keeps zq5_218 (by decide) (ce_43 _ _ _ _ _ _) rfl dX10_findCommutator_69 rfl rfl (Nat.le_of_ble_eq_true rfl) ⟨Nat.le_of_ble_eq_true rfl, Nat.le_of_ble_eq_true rfl⟩ ⟨Nat.le_of_ble_eq_true rfl, Nat.le_of_ble_eq_true rfl⟩ (Nat.le_of_ble_eq_true rfl) (Nat.le_of_ble_eq_true rfl) (fun _ _ h => h.elim) (fun r69 τ69 hp => ?_)
      refine gz_norm (st' := [.int r69]) (cells' := 0) (slots' := 0) rfl rfl rfl ?_
      refine gz_goto K 80 dX10_findCommutator_72 (by decide) ?_
      exact gz_iret K hr hp dX10_findCommutator_80 (Nat.le_of_ble_eq_true rfl) (Nat.le_of_ble_eq_true rfl)
  have bb_57 : ∀ (σ : Dz) (y1 : Int32) , B_X10_findCommutator_57 post  σ y1 → Gz p l e r_X10_findCommutator s m args below meth c D ad ty 4 0 0 (Ez below D ad ty nI0 post (fun _ _ => False) args s 0 0) σ 57 [(0, .ref (ad 43)), (1, .int y1)] [] := by
    intro σ y1 hp
    unfold B_X10_findCommutator_57 at hp
    refine gz_iconst K (v := (1 : Int32)) dX10_findCommutator_57 (by decide) ?_
    refine gz_goto K 62 dX10_findCommutator_58 (by decide) ?_
    exact bb_62 σ y1 (1 : Int32)  hp
  show Gz p l e r_X10_findCommutator s m args below meth c D ad ty 4 0 0 (Ez below D ad ty nI0 post (fun _ _ => False) args s 0 0) σ 0 [(0, .ref (ad 43)), (1, .int x1), (2, .int x2)] []
  refine gz_iload_n K dX10_findCommutator_0 1 rfl ?_
  refine gz_callS K hex (c_X10_isSlot K.2.2.2.2.2 K.2.2.1 hp) cf_X10_isSlot zq5_189 dX10_findCommutator_1 rfl rfl (Nat.le_of_ble_eq_true rfl) ⟨Nat.le_of_ble_eq_true rfl, Nat.le_of_ble_eq_true rfl⟩ ⟨Nat.le_of_ble_eq_true rfl, Nat.le_of_ble_eq_true rfl⟩ (Nat.le_of_ble_eq_true rfl) (Nat.le_of_ble_eq_true rfl) (fun _ _ h => h.elim) (fun r1 τ hp => ?_)
  obtain ⟨rfl, hp⟩ := hp
  refine gz_norm (st' := [.int r1]) (cells' := 0) (slots' := 0) rfl rfl rfl ?_
  refine gz_if_ne K 13 dX10_findCommutator_4 (by decide) (fun h => ?_) (fun h => ?_)
  · have hp := hp.1 h
    refine gz_aload_n K dX10_findCommutator_13 0 rfl ?_
    refine gz_iload_n K dX10_findCommutator_14 1 rfl ?_
    refine gz_iload_n K dX10_findCommutator_15 2 rfl ?_
    refine gz_iconst K (v := (1 : Int32)) dX10_findCommutator_16 (by decide) ?_
    refine gz_iconst K (v := (1 : Int32)) dX10_findCommutator_17 (by decide) ?_
    refine gz_callV K hex (c_X10_finds K.2.2.2.2.2 K.2.2.1 hp) cf_X10_finds zq6_118 (by decide) (ce_43 _ _ _ _ _ _) rfl dX10_findCommutator_18 rfl rfl (Nat.le_of_ble_eq_true rfl) ⟨Nat.le_of_ble_eq_true rfl, Nat.le_of_ble_eq_true rfl⟩ ⟨Nat.le_of_ble_eq_true rfl, Nat.le_of_ble_eq_true rfl⟩ (Nat.le_of_ble_eq_true rfl) (Nat.le_of_ble_eq_true rfl) (fun _ _ h => h.elim) (fun r18 τ18 hp => ?_)
    refine gz_norm (st' := [.int r18]) (cells' := 0) (slots' := 0) rfl rfl rfl ?_
    refine gz_if_ne K 57 dX10_findCommutator_21 (by decide) (fun h => ?_) (fun h => ?_)
    · have hp := hp.1 h
      refine gz_sub [0, 1] rfl ?_
      exact bb_57 τ18 x1  hp
    · have hp := hp.2 h
      refine gz_aload_n K dX10_findCommutator_24 0 rfl ?_
      refine gz_iload_n K dX10_findCommutator_25 1 rfl ?_
      refine gz_iload_n K dX10_findCommutator_26 2 rfl ?_
      refine gz_iconst K (v := (1 : Int32)) dX10_findCommutator_27 (by decide) ?_
      refine gz_iconst K (v := (2 : Int32)) dX10_findCommutator_28 (by decide) ?_
      refine gz_callV K hex (c_X10_finds K.2.2.2.2.2 K.2.2.1 hp) cf_X10_finds zq6_118 (by decide) (ce_43 _ _ _ _ _ _) rfl dX10_findCommutator_29 rfl rfl (Nat.le_of_ble_eq_true rfl) ⟨Nat.le_of_ble_eq_true rfl, Nat.le_of_ble_eq_true rfl⟩ ⟨Nat.le_of_ble_eq_true rfl, Nat.le_of_ble_eq_true rfl⟩ (Nat.le_of_ble_eq_true rfl) (Nat.le_of_ble_eq_true rfl) (fun _ _ h => h.elim) (fun r29 τ29 hp => ?_)
      refine gz_norm (st' := [.int r29]) (cells' := 0) (slots' := 0) rfl rfl rfl ?_
      refine gz_if_ne K 57 dX10_findCommutator_32 (by decide) (fun h => ?_) (fun h => ?_)
      · have hp := hp.1 h
        refine gz_sub [0, 1] rfl ?_
        exact bb_57 τ29 x1  hp
      · have hp := hp.2 h
        refine gz_aload_n K dX10_findCommutator_35 0 rfl ?_
        refine gz_iload_n K dX10_findCommutator_36 1 rfl ?_
        refine gz_iload_n K dX10_findCommutator_37 2 rfl ?_
        refine gz_iconst K (v := (2 : Int32)) dX10_findCommutator_38 (by decide) ?_
        refine gz_iconst K (v := (1 : Int32)) dX10_findCommutator_39 (by decide) ?_
        refine gz_callV K hex (c_X10_finds K.2.2.2.2.2 K.2.2.1 hp) cf_X10_finds zq6_118 (by decide) (ce_43 _ _ _ _ _ _) rfl dX10_findCommutator_40 rfl rfl (Nat.le_of_ble_eq_true rfl) ⟨Nat.le_of_ble_eq_true rfl, Nat.le_of_ble_eq_true rfl⟩ ⟨Nat.le_of_ble_eq_true rfl, Nat.le_of_ble_eq_true rfl⟩ (Nat.le_of_ble_eq_true rfl) (Nat.le_of_ble_eq_true rfl) (fun _ _ h => h.elim) (fun r40 τ40 hp => ?_)
        refine gz_norm (st' := [.int r40]) (cells' := 0) (slots' := 0) rfl rfl rfl ?_
        refine gz_if_ne K 57 dX10_findCommutator_43 (by decide) (fun h => ?_) (fun h => ?_)
        · have hp := hp.1 h
          refine gz_sub [0, 1] rfl ?_
          exact bb_57 τ40 x1  hp
        · have hp := hp.2 h
          refine gz_aload_n K dX10_findCommutator_46 0 rfl ?_
          refine gz_iload_n K dX10_findCommutator_47 1 rfl ?_
          refine gz_iload_n K dX10_findCommutator_48 2 rfl ?_
          refine gz_iconst K (v := (2 : Int32)) dX10_findCommutator_49 (by decide) ?_
          refine gz_iconst K (v := (2 : Int32)) dX10_findCommutator_50 (by decide) ?_
          refine gz_callV K hex (c_X10_finds K.2.2.2.2.2 K.2.2.1 hp) cf_X10_finds zq6_118 (by decide) (ce_43 _ _ _ _ _ _) rfl dX10_findCommutator_51 rfl rfl (Nat.le_of_ble_eq_true rfl) ⟨Nat.le_of_ble_eq_true rfl, Nat.le_of_ble_eq_true rfl⟩ ⟨Nat.le_of_ble_eq_true rfl, Nat.le_of_ble_eq_true rfl⟩ (Nat.le_of_ble_eq_true rfl) (Nat.le_of_ble_eq_true rfl) (fun _ _ h => h.elim) (fun r51 τ51 hp => ?_)
          refine gz_norm (st' := [.int r51]) (cells' := 0) (slots' := 0) rfl rfl rfl ?_
          refine gz_if_eq K 61 dX10_findCommutator_54 (by decide) (fun h => ?_) (fun h => ?_)
          · have hp := hp.1 h
            refine gz_iconst K (v := (0 : Int32)) dX10_findCommutator_61 (by decide) ?_
            refine gz_sub [0, 1] rfl ?_
            exact bb_62 τ51 x1 (0 : Int32)  hp
          · have hp := hp.2 h
            refine gz_sub [0, 1] rfl ?_
            exact bb_57 τ51 x1  hp
  · have hp := hp.2 h
    refine gz_aload_n K dX10_findCommutator_7 0 rfl ?_
    refine gz_iconst K (v := (1 : Int32)) dX10_findCommutator_8 (by decide) ?_
    refine gz_callV K hex (c_X10_fails K.2.2.2.2.2 K.2.2.1 hp) cf_X10_fails zq5_149 (by decide) (ce_43 _ _ _ _ _ _) rfl dX10_findCommutator_9 rfl rfl (Nat.le_of_ble_eq_true rfl) ⟨Nat.le_of_ble_eq_true rfl, Nat.le_of_ble_eq_true rfl⟩ ⟨Nat.le_of_ble_eq_true rfl, Nat.le_of_ble_eq_true rfl⟩ (Nat.le_of_ble_eq_true rfl) (Nat.le_of_ble_eq_true rfl) (fun _ _ h => h.elim) (fun r9 τ9 hp => ?_)
    refine gz_norm (st' := [.int r9]) (cells' := 0) (slots' := 0) rfl rfl rfl ?_
    exact gz_iret K hr hp dX10_findCommutator_12 (Nat.le_of_ble_eq_true rfl) (Nat.le_of_ble_eq_true rfl)
set_option maxRecDepth 100000 in
set_option maxHeartbeats 4000000 in
theorem c_X10_isRow {l : Launch} {D : va_G} {ad : Nat → Nat} {ty : Nat → ClassId} (hl : l.stackTraces = false) (hj : ∀ i j, i < 68 → j < 68 → ad i = ad j → i = j) {σ : Dz} {x0 : Int32} {post : Int32 → Prop} (hp : P_X10_isRow x0 post) : Mz l D ad ty yX10_isRow cX10_isRow 1 (some .boolean) r_X10_isRow nI0 σ [.int x0] (fun r τ => σ = τ ∧ post r) (fun _ _ => False) := by
  refine mz_of (by decide) hl hj (Nat.le_of_ble_eq_true rfl) ?_
  intro p e s m args below meth c K hex hr
  unfold P_X10_isRow at hp
  show Gz p l e r_X10_isRow s m args below meth c D ad ty 1 0 0 (Ez below D ad ty nI0 (fun r τ => σ = τ ∧ post r) (fun _ _ => False) args s 0 0) σ 0 [(0, .int x0)] []
  refine gz_iload_n K dX10_isRow_0 0 rfl ?_
  refine gz_iconst K (v := (0 : Int32)) dX10_isRow_1 (by decide) ?_
  refine gz_iconst K (v := (1 : Int32)) dX10_isRow_2 (by decide) ?_
  refine gz_callS K hex (c_X10_in K.2.2.2.2.2 K.2.2.1 hp) cf_X10_in zq5_146 dX10_isRow_3 rfl rfl (Nat.le_of_ble_eq_true rfl) ⟨Nat.le_of_ble_eq_true rfl, Nat.le_of_ble_eq_true rfl⟩ ⟨Nat.le_of_ble_eq_true rfl, Nat.le_of_ble_eq_true rfl⟩ (Nat.le_of_ble_eq_true rfl) (Nat.le_of_ble_eq_true rfl) (fun _ _ h => h.elim) (fun r3 τ hp => ?_)
  obtain ⟨rfl, hp⟩ := hp
  refine gz_norm (st' := [.int r3]) (cells' := 0) (slots' := 0) rfl rfl rfl ?_
  exact gz_zret K hr (nB hp.1) ⟨rfl, hp.2⟩ dX10_isRow_6 (Nat.le_of_ble_eq_true rfl) (Nat.le_of_ble_eq_true rfl)
set_option maxRecDepth 100000 in
set_option maxHeartbeats 4000000 in
theorem c_X10_fillShares {l : Launch} {D : va_G} {ad : Nat → Nat} {ty : Nat → ClassId} (hl : l.stackTraces = false) (hj : ∀ i j, i < 68 → j < 68 → ad i = ad j → i = j) {σ : Dz} {x1 : Int32} {post : Int32 → Dz → Prop} (hp : P_X10_fillShares σ x1 post) : Mz l D ad ty yX10_fillShares cX10_fillShares 3 (some .int) r_X10_fillShares nI0 σ [.ref (ad 43), .int x1] post (fun _ _ => False) := by
  refine mz_of (by decide) hl hj (Nat.le_of_ble_eq_true rfl) ?_
  intro p e s m args below meth c K hex hr
  unfold P_X10_fillShares at hp
  show Gz p l e r_X10_fillShares s m args below meth c D ad ty 3 0 0 (Ez below D ad ty nI0 post (fun _ _ => False) args s 0 0) σ 0 [(0, .ref (ad 43)), (1, .int x1)] []
  refine gz_iload_n K dX10_fillShares_0 1 rfl ?_
  refine gz_callS K hex (c_X10_isRow K.2.2.2.2.2 K.2.2.1 hp) cf_X10_isRow zq6_142 dX10_fillShares_1 rfl rfl (Nat.le_of_ble_eq_true rfl) ⟨Nat.le_of_ble_eq_true rfl, Nat.le_of_ble_eq_true rfl⟩ ⟨Nat.le_of_ble_eq_true rfl, Nat.le_of_ble_eq_true rfl⟩ (Nat.le_of_ble_eq_true rfl) (Nat.le_of_ble_eq_true rfl) (fun _ _ h => h.elim) (fun r1 τ hp => ?_)
  obtain ⟨rfl, hp⟩ := hp
  refine gz_norm (st' := [.int r1]) (cells' := 0) (slots' := 0) rfl rfl rfl ?_
  refine gz_if_ne K 13 dX10_fillShares_4 (by decide) (fun h => ?_) (fun h => ?_)
  · have hp := hp.1 h
    refine gz_aload_n K dX10_fillShares_13 0 rfl ?_
    refine gz_callV K hex (c_X10_tellDepths K.2.2.2.2.2 K.2.2.1 hp) cf_X10_tellDepths zq6_66 (by decide) (ce_43 _ _ _ _ _ _) rfl dX10_fillShares_14 rfl rfl (Nat.le_of_ble_eq_true rfl) ⟨Nat.le_of_ble_eq_true rfl, Nat.le_of_ble_eq_true rfl⟩ ⟨Nat.le_of_ble_eq_true rfl, Nat.le_of_ble_eq_true rfl⟩ (Nat.le_of_ble_eq_true rfl) (Nat.le_of_ble_eq_true rfl) (fun _ _ h => h.elim) (fun _ τ14 hp => ?_)
    refine gz_norm (st' := []) (cells' := 0) (slots' := 0) rfl rfl rfl ?_
    refine gz_iconst K (v := (0 : Int32)) dX10_fillShares_17 (by decide) ?_
    refine gz_istore_n K [(2, .int (0 : Int32)), (0, .ref (ad 43)), (1, .int x1)] dX10_fillShares_18 (by decide) rfl ?_
    refine gz_sub [1, 2, 0] rfl ?_
    have ll_19 : ∀ (n_19 : Nat) (σ : Dz) (y1 : Int32) (y2 : Int32) , L_X10_fillShares_19 post  n_19 σ y1 y2 → Gz p l e r_X10_fillShares s m args below meth c D ad ty 3 0 0 (Ez below D ad ty nI0 post (fun _ _ => False) args s 0 0) σ 19 [(0, .ref (ad 43)), (1, .int y1), (2, .int y2)] [] := by
      intro n_19; induction n_19 with
      | zero => intro σ y1 y2 hp; exact False.elim hp
      | succ n_19 ih_19 =>
        intro σ y1 y2 hp
        have hp : B_X10_fillShares_19 post  (L_X10_fillShares_19 post  n_19) σ y1 y2 := hp
        unfold B_X10_fillShares_19 at hp
        have bb_70 : ∀ (σ : Dz) (y1 : Int32) (y2 : Int32) , B_X10_fillShares_70 post (L_X10_fillShares_19 post  n_19) σ y1 y2 → Gz p l e r_X10_fillShares s m args below meth c D ad ty 3 0 0 (Ez below D ad ty nI0 post (fun _ _ => False) args s 0 0) σ 70 [(0, .ref (ad 43)), (1, .int y1), (2, .int y2)] [] := by
          intro σ y1 y2 hp
          unfold B_X10_fillShares_70 at hp
          refine gz_iinc K (v := (y2 + 1)) [(2, .int (y2 + 1)), (0, .ref (ad 43)), (1, .int y1)] dX10_fillShares_70 2 rfl (by first | rfl | decide) (by decide) rfl ?_
          refine gz_goto K 19 dX10_fillShares_73 (by decide) ?_
          refine gz_sub [1, 2, 0] rfl ?_
          exact ih_19 σ y1 (y2 + 1)  hp
        refine gz_iload_n K dX10_fillShares_19 2 rfl ?_
        refine gz_bipush K (v := (24 : Int32)) dX10_fillShares_20 (by decide) ?_
        refine gz_icmp_ge K 76 dX10_fillShares_22 (by decide) (fun h => ?_) (fun h => ?_)
        · have hp := hp.1 h
          refine gz_aload_n K dX10_fillShares_76 0 rfl ?_
          refine gz_aload_n K dX10_fillShares_77 0 rfl ?_
          refine gz_get K (v := .int (gz_i σ 43 33)) (by decide) (ce_43 _ _ _ _ _ _) rfl inz_X10 33 (by decide) zq5_64 rfl dX10_fillShares_78 ?_
          refine gz_bipush K (v := (24 : Int32)) dX10_fillShares_81 (by decide) ?_
          refine gz_icmp_ge K 90 dX10_fillShares_83 (by decide) (fun h => ?_) (fun h => ?_)
          · have hp := hp.1 h
            refine gz_aload_n K dX10_fillShares_90 0 rfl ?_
            refine gz_get K (v := .int (gz_i σ 43 33)) (by decide) (ce_43 _ _ _ _ _ _) rfl inz_X10 33 (by decide) zq5_64 rfl dX10_fillShares_91 ?_
            refine gz_bipush K (v := (24 : Int32)) dX10_fillShares_94 (by decide) ?_
            refine gz_isub K dX10_fillShares_96 ?_
            refine gz_iconst K (v := (1 : Int32)) dX10_fillShares_97 (by decide) ?_
            refine gz_iadd K dX10_fillShares_98 ?_
            refine gz_callV K hex (c_X10_done K.2.2.2.2.2 K.2.2.1 hp) cf_X10_done zq5_153 (by decide) (ce_43 _ _ _ _ _ _) rfl dX10_fillShares_99 rfl rfl (Nat.le_of_ble_eq_true rfl) ⟨Nat.le_of_ble_eq_true rfl, Nat.le_of_ble_eq_true rfl⟩ ⟨Nat.le_of_ble_eq_true rfl, Nat.le_of_ble_eq_true rfl⟩ (Nat.le_of_ble_eq_true rfl) (Nat.le_of_ble_eq_true rfl) (fun _ _ h => h.elim) (fun r99 τ99 hp => ?_)
            refine gz_norm (st' := [.int r99]) (cells' := 0) (slots' := 0) rfl rfl rfl ?_
            exact gz_iret K hr hp dX10_fillShares_102 (Nat.le_of_ble_eq_true rfl) (Nat.le_of_ble_eq_true rfl)
          · have hp := hp.2 h
            refine gz_iconst K (v := (0 : Int32)) dX10_fillShares_86 (by decide) ?_
            refine gz_goto K 99 dX10_fillShares_87 (by decide) ?_
            refine gz_callV K hex (c_X10_done K.2.2.2.2.2 K.2.2.1 hp) cf_X10_done zq5_153 (by decide) (ce_43 _ _ _ _ _ _) rfl dX10_fillShares_99 rfl rfl (Nat.le_of_ble_eq_true rfl) ⟨Nat.le_of_ble_eq_true rfl, Nat.le_of_ble_eq_true rfl⟩ ⟨Nat.le_of_ble_eq_true rfl, Nat.le_of_ble_eq_true rfl⟩ (Nat.le_of_ble_eq_true rfl) (Nat.le_of_ble_eq_true rfl) (fun _ _ h => h.elim) (fun r99 τ99 hp => ?_)
            refine gz_norm (st' := [.int r99]) (cells' := 0) (slots' := 0) rfl rfl rfl ?_
            exact gz_iret K hr hp dX10_fillShares_102 (Nat.le_of_ble_eq_true rfl) (Nat.le_of_ble_eq_true rfl)
        · have hp := hp.2 h
          refine gz_iload_n K dX10_fillShares_25 1 rfl ?_
          refine gz_if_ne K 51 dX10_fillShares_26 (by decide) (fun h => ?_) (fun h => ?_)
          · have hp := hp.1 h
            refine gz_aload_n K dX10_fillShares_51 0 rfl ?_
            refine gz_get K (v := .ref (ad 51)) (by decide) (ce_43 _ _ _ _ _ _) rfl inz_X10 11 (by decide) zq5_42 rfl dX10_fillShares_52 ?_
            refine gz_iload_n K dX10_fillShares_55 2 rfl ?_
            refine gz_aload_n K dX10_fillShares_56 0 rfl ?_
            refine gz_get K (v := .ref (ad 65)) (by decide) (ce_43 _ _ _ _ _ _) rfl inz_X10 34 (by decide) zq5_65 rfl dX10_fillShares_57 ?_
            refine gz_iload_n K dX10_fillShares_60 2 rfl ?_
            obtain ⟨h, hp⟩ := hp
            refine gz_iald K (by decide) (ce_65 _ _ _ _ _ _) h dX10_fillShares_61 ?_
            refine gz_i2d K dX10_fillShares_62 ?_
            refine gz_aload_n K dX10_fillShares_63 0 rfl ?_
            refine gz_get K (v := .int (gz_i σ 43 32)) (by decide) (ce_43 _ _ _ _ _ _) rfl inz_X10 32 (by decide) zq5_63 rfl dX10_fillShares_64 ?_
            refine gz_i2d K dX10_fillShares_67 ?_
            obtain ⟨h, hp⟩ := hp
            refine gz_ddiv K dX10_fillShares_68 h ?_
            obtain ⟨h, hp⟩ := hp
            refine gz_dast K (x := (FP.ddiv (FP.i2d (gz_i σ 65 (y2).toNatClampNeg)) (FP.i2d (gz_i σ 43 32)))) (by decide) (ce_51 ad ty) h dX10_fillShares_69 ?_
            exact bb_70 (sz_d σ 51 (y2).toNatClampNeg (FP.ddiv (FP.i2d (gz_i σ 65 (y2).toNatClampNeg)) (FP.i2d (gz_i σ 43 32)))) y1 y2  hp
          · have hp := hp.2 h
            refine gz_aload_n K dX10_fillShares_29 0 rfl ?_
            refine gz_get K (v := .ref (ad 50)) (by decide) (ce_43 _ _ _ _ _ _) rfl inz_X10 10 (by decide) zq5_41 rfl dX10_fillShares_30 ?_
            refine gz_iload_n K dX10_fillShares_33 2 rfl ?_
            refine gz_aload_n K dX10_fillShares_34 0 rfl ?_
            refine gz_get K (v := .ref (ad 65)) (by decide) (ce_43 _ _ _ _ _ _) rfl inz_X10 34 (by decide) zq5_65 rfl dX10_fillShares_35 ?_
            refine gz_iload_n K dX10_fillShares_38 2 rfl ?_
            obtain ⟨h, hp⟩ := hp
            refine gz_iald K (by decide) (ce_65 _ _ _ _ _ _) h dX10_fillShares_39 ?_
            refine gz_i2f K dX10_fillShares_40 ?_
            refine gz_aload_n K dX10_fillShares_41 0 rfl ?_
            refine gz_get K (v := .int (gz_i σ 43 32)) (by decide) (ce_43 _ _ _ _ _ _) rfl inz_X10 32 (by decide) zq5_63 rfl dX10_fillShares_42 ?_
            refine gz_i2f K dX10_fillShares_45 ?_
            obtain ⟨h, hp⟩ := hp
            refine gz_fdiv K dX10_fillShares_46 h ?_
            obtain ⟨h, hp⟩ := hp
            refine gz_fast K (x := (FP.fdiv (FP.i2f (gz_i σ 65 (y2).toNatClampNeg)) (FP.i2f (gz_i σ 43 32)))) (by decide) (ce_50 ad ty) h dX10_fillShares_47 ?_
            refine gz_goto K 70 dX10_fillShares_48 (by decide) ?_
            exact bb_70 (sz_f σ 50 (y2).toNatClampNeg (FP.fdiv (FP.i2f (gz_i σ 65 (y2).toNatClampNeg)) (FP.i2f (gz_i σ 43 32)))) y1 y2  hp
    obtain ⟨n, hp⟩ := hp
    exact ll_19 n τ14 x1 (0 : Int32)  hp
  · have hp := hp.2 h
    refine gz_aload_n K dX10_fillShares_7 0 rfl ?_
    refine gz_iconst K (v := (1 : Int32)) dX10_fillShares_8 (by decide) ?_
    refine gz_callV K hex (c_X10_fails K.2.2.2.2.2 K.2.2.1 hp) cf_X10_fails zq5_149 (by decide) (ce_43 _ _ _ _ _ _) rfl dX10_fillShares_9 rfl rfl (Nat.le_of_ble_eq_true rfl) ⟨Nat.le_of_ble_eq_true rfl, Nat.le_of_ble_eq_true rfl⟩ ⟨Nat.le_of_ble_eq_true rfl, Nat.le_of_ble_eq_true rfl⟩ (Nat.le_of_ble_eq_true rfl) (Nat.le_of_ble_eq_true rfl) (fun _ _ h => h.elim) (fun r9 τ9 hp => ?_)
    refine gz_norm (st' := [.int r9]) (cells' := 0) (slots' := 0) rfl rfl rfl ?_
    exact gz_iret K hr hp dX10_fillShares_12 (Nat.le_of_ble_eq_true rfl) (Nat.le_of_ble_eq_true rfl)
set_option maxRecDepth 100000 in
set_option maxHeartbeats 4000000 in
theorem c_X10_scale {l : Launch} {D : va_G} {ad : Nat → Nat} {ty : Nat → ClassId} (hl : l.stackTraces = false) (hj : ∀ i j, i < 68 → j < 68 → ad i = ad j → i = j) {σ : Dz} {x1 : Int32} {x2 : Int32} {x3 : Int32} {post : Int32 → Dz → Prop} (hp : P_X10_scale σ x1 x2 x3 post) : Mz l D ad ty yX10_scale cX10_scale 6 (some .int) r_X10_scale nI0 σ [.ref (ad 43), .int x1, .int x2, .int x3] post (fun _ _ => False) := by
  refine mz_of (by decide) hl hj (Nat.le_of_ble_eq_true rfl) ?_
  intro p e s m args below meth c K hex hr
  unfold P_X10_scale at hp
  show Gz p l e r_X10_scale s m args below meth c D ad ty 6 0 0 (Ez below D ad ty nI0 post (fun _ _ => False) args s 0 0) σ 0 [(0, .ref (ad 43)), (1, .int x1), (2, .int x2), (3, .int x3)] []
  refine gz_iload_n K dX10_scale_0 1 rfl ?_
  refine gz_callS K hex (c_X10_isRow K.2.2.2.2.2 K.2.2.1 hp) cf_X10_isRow zq6_142 dX10_scale_1 rfl rfl (Nat.le_of_ble_eq_true rfl) ⟨Nat.le_of_ble_eq_true rfl, Nat.le_of_ble_eq_true rfl⟩ ⟨Nat.le_of_ble_eq_true rfl, Nat.le_of_ble_eq_true rfl⟩ (Nat.le_of_ble_eq_true rfl) (Nat.le_of_ble_eq_true rfl) (fun _ _ h => h.elim) (fun r1 τ hp => ?_)
  obtain ⟨rfl, hp⟩ := hp
  refine gz_norm (st' := [.int r1]) (cells' := 0) (slots' := 0) rfl rfl rfl ?_
  refine gz_if_eq K 17 dX10_scale_4 (by decide) (fun h => ?_) (fun h => ?_)
  · have hp := hp.1 h
    refine gz_aload_n K dX10_scale_17 0 rfl ?_
    refine gz_iconst K (v := (1 : Int32)) dX10_scale_18 (by decide) ?_
    refine gz_callV K hex (c_X10_fails K.2.2.2.2.2 K.2.2.1 hp) cf_X10_fails zq5_149 (by decide) (ce_43 _ _ _ _ _ _) rfl dX10_scale_19 rfl rfl (Nat.le_of_ble_eq_true rfl) ⟨Nat.le_of_ble_eq_true rfl, Nat.le_of_ble_eq_true rfl⟩ ⟨Nat.le_of_ble_eq_true rfl, Nat.le_of_ble_eq_true rfl⟩ (Nat.le_of_ble_eq_true rfl) (Nat.le_of_ble_eq_true rfl) (fun _ _ h => h.elim) (fun r19 τ19 hp => ?_)
    refine gz_norm (st' := [.int r19]) (cells' := 0) (slots' := 0) rfl rfl rfl ?_
    exact gz_iret K hr hp dX10_scale_22 (Nat.le_of_ble_eq_true rfl) (Nat.le_of_ble_eq_true rfl)
  · have hp := hp.2 h
    refine gz_iload_n K dX10_scale_7 2 rfl ?_
    refine gz_iconst K (v := (0 : Int32)) dX10_scale_8 (by decide) ?_
    refine gz_bipush K (v := (23 : Int32)) dX10_scale_9 (by decide) ?_
    refine gz_callS K hex (c_X10_in K.2.2.2.2.2 K.2.2.1 hp) cf_X10_in zq5_146 dX10_scale_11 rfl rfl (Nat.le_of_ble_eq_true rfl) ⟨Nat.le_of_ble_eq_true rfl, Nat.le_of_ble_eq_true rfl⟩ ⟨Nat.le_of_ble_eq_true rfl, Nat.le_of_ble_eq_true rfl⟩ (Nat.le_of_ble_eq_true rfl) (Nat.le_of_ble_eq_true rfl) (fun _ _ h => h.elim) (fun r11 τ hp => ?_)
    obtain ⟨rfl, hp⟩ := hp
    refine gz_norm (st' := [.int r11]) (cells' := 0) (slots' := 0) rfl rfl rfl ?_
    refine gz_if_ne K 23 dX10_scale_14 (by decide) (fun h => ?_) (fun h => ?_)
    · have hp := hp.1 h
      refine gz_iload_n K dX10_scale_23 3 rfl ?_
      refine gz_sipush K (v := (-1000 : Int32)) dX10_scale_24 (by decide) ?_
      refine gz_sipush K (v := (1000 : Int32)) dX10_scale_27 (by decide) ?_
      refine gz_callS K hex (c_X10_in K.2.2.2.2.2 K.2.2.1 hp) cf_X10_in zq5_146 dX10_scale_30 rfl rfl (Nat.le_of_ble_eq_true rfl) ⟨Nat.le_of_ble_eq_true rfl, Nat.le_of_ble_eq_true rfl⟩ ⟨Nat.le_of_ble_eq_true rfl, Nat.le_of_ble_eq_true rfl⟩ (Nat.le_of_ble_eq_true rfl) (Nat.le_of_ble_eq_true rfl) (fun _ _ h => h.elim) (fun r30 τ hp => ?_)
      obtain ⟨rfl, hp⟩ := hp
      refine gz_norm (st' := [.int r30]) (cells' := 0) (slots' := 0) rfl rfl rfl ?_
      refine gz_if_ne K 42 dX10_scale_33 (by decide) (fun h => ?_) (fun h => ?_)
      · have hp := hp.1 h
        refine gz_iload_n K dX10_scale_42 1 rfl ?_
        refine gz_if_ne K 95 dX10_scale_43 (by decide) (fun h => ?_) (fun h => ?_)
        · have hp := hp.1 h
          refine gz_aload_n K dX10_scale_95 0 rfl ?_
          refine gz_get K (v := .ref (ad 51)) (by decide) (ce_43 _ _ _ _ _ _) rfl inz_X10 11 (by decide) zq5_42 rfl dX10_scale_96 ?_
          refine gz_iload_n K dX10_scale_99 2 rfl ?_
          obtain ⟨h, hp⟩ := hp
          refine gz_dald K (by decide) (ce_51 _ _ _ _ _ _) h dX10_scale_100 ?_
          refine gz_iload_n K dX10_scale_101 3 rfl ?_
          refine gz_i2d K dX10_scale_102 ?_
          obtain ⟨h, hp⟩ := hp
          refine gz_dmul K dX10_scale_103 h ?_
          refine gz_dstore K [(4, .double (FP.dmul (gz_d σ 51 (x2).toNatClampNeg) (FP.i2d x3))), (0, .ref (ad 43)), (1, .int x1), (2, .int x2), (3, .int x3)] dX10_scale_104 (by decide) rfl ?_
          refine gz_dload K dX10_scale_106 0 rfl ?_
          refine gz_ldc2d K zq6_151 dX10_scale_108 ?_
          refine gz_dcmp K dX10_scale_111 ?_
          refine gz_if_gt K 124 dX10_scale_112 (by decide) (fun h => ?_) (fun h => ?_)
          · have hp := hp.1 h
            refine gz_aload_n K dX10_scale_124 1 rfl ?_
            refine gz_iconst K (v := (3 : Int32)) dX10_scale_125 (by decide) ?_
            refine gz_callV K hex (c_X10_fails K.2.2.2.2.2 K.2.2.1 hp) cf_X10_fails zq5_149 (by decide) (ce_43 _ _ _ _ _ _) rfl dX10_scale_126 rfl rfl (Nat.le_of_ble_eq_true rfl) ⟨Nat.le_of_ble_eq_true rfl, Nat.le_of_ble_eq_true rfl⟩ ⟨Nat.le_of_ble_eq_true rfl, Nat.le_of_ble_eq_true rfl⟩ (Nat.le_of_ble_eq_true rfl) (Nat.le_of_ble_eq_true rfl) (fun _ _ h => h.elim) (fun r126 τ126 hp => ?_)
            refine gz_norm (st' := [.int r126]) (cells' := 0) (slots' := 0) rfl rfl rfl ?_
            exact gz_iret K hr hp dX10_scale_129 (Nat.le_of_ble_eq_true rfl) (Nat.le_of_ble_eq_true rfl)
          · have hp := hp.2 h
            refine gz_dload K dX10_scale_115 0 rfl ?_
            refine gz_ldc2d K zq6_152 dX10_scale_117 ?_
            refine gz_dcmp K dX10_scale_120 ?_
            refine gz_if_ge K 130 dX10_scale_121 (by decide) (fun h => ?_) (fun h => ?_)
            · have hp := hp.1 h
              refine gz_aload_n K dX10_scale_130 1 rfl ?_
              refine gz_get K (v := .ref (ad 51)) (by decide) (ce_43 _ _ _ _ _ _) rfl inz_X10 11 (by decide) zq5_42 rfl dX10_scale_131 ?_
              refine gz_iload_n K dX10_scale_134 3 rfl ?_
              refine gz_dload K dX10_scale_135 0 rfl ?_
              obtain ⟨h, hp⟩ := hp
              refine gz_dast K (x := (FP.dmul (gz_d σ 51 (x2).toNatClampNeg) (FP.i2d x3))) (by decide) (ce_51 ad ty) h dX10_scale_137 ?_
              refine gz_aload_n K dX10_scale_138 1 rfl ?_
              refine gz_dload K dX10_scale_139 0 rfl ?_
              refine gz_d2i K dX10_scale_141 ?_
              refine gz_callV K hex (c_X10_done K.2.2.2.2.2 K.2.2.1 hp) cf_X10_done zq5_153 (by decide) (ce_43 _ _ _ _ _ _) rfl dX10_scale_142 rfl rfl (Nat.le_of_ble_eq_true rfl) ⟨Nat.le_of_ble_eq_true rfl, Nat.le_of_ble_eq_true rfl⟩ ⟨Nat.le_of_ble_eq_true rfl, Nat.le_of_ble_eq_true rfl⟩ (Nat.le_of_ble_eq_true rfl) (Nat.le_of_ble_eq_true rfl) (fun _ _ h => h.elim) (fun r142 τ142 hp => ?_)
              refine gz_norm (st' := [.int r142]) (cells' := 0) (slots' := 0) rfl rfl rfl ?_
              exact gz_iret K hr hp dX10_scale_145 (Nat.le_of_ble_eq_true rfl) (Nat.le_of_ble_eq_true rfl)
            · have hp := hp.2 h
              refine gz_aload_n K dX10_scale_124 1 rfl ?_
              refine gz_iconst K (v := (3 : Int32)) dX10_scale_125 (by decide) ?_
              refine gz_callV K hex (c_X10_fails K.2.2.2.2.2 K.2.2.1 hp) cf_X10_fails zq5_149 (by decide) (ce_43 _ _ _ _ _ _) rfl dX10_scale_126 rfl rfl (Nat.le_of_ble_eq_true rfl) ⟨Nat.le_of_ble_eq_true rfl, Nat.le_of_ble_eq_true rfl⟩ ⟨Nat.le_of_ble_eq_true rfl, Nat.le_of_ble_eq_true rfl⟩ (Nat.le_of_ble_eq_true rfl) (Nat.le_of_ble_eq_true rfl) (fun _ _ h => h.elim) (fun r126 τ126 hp => ?_)
              refine gz_norm (st' := [.int r126]) (cells' := 0) (slots' := 0) rfl rfl rfl ?_
              exact gz_iret K hr hp dX10_scale_129 (Nat.le_of_ble_eq_true rfl) (Nat.le_of_ble_eq_true rfl)
        · have hp := hp.2 h
          refine gz_aload_n K dX10_scale_46 0 rfl ?_
          refine gz_get K (v := .ref (ad 50)) (by decide) (ce_43 _ _ _ _ _ _) rfl inz_X10 10 (by decide) zq5_41 rfl dX10_scale_47 ?_
          refine gz_iload_n K dX10_scale_50 2 rfl ?_
          obtain ⟨h, hp⟩ := hp
          refine gz_fald K (by decide) (ce_50 _ _ _ _ _ _) h dX10_scale_51 ?_
          refine gz_iload_n K dX10_scale_52 3 rfl ?_
          refine gz_i2f K dX10_scale_53 ?_
          obtain ⟨h, hp⟩ := hp
          refine gz_fmul K dX10_scale_54 h ?_
          refine gz_fstore K [(4, .float (FP.fmul (gz_f σ 50 (x2).toNatClampNeg) (FP.i2f x3))), (0, .ref (ad 43)), (1, .int x1), (2, .int x2), (3, .int x3)] dX10_scale_55 (by decide) rfl ?_
          refine gz_fload K dX10_scale_57 0 rfl ?_
          refine gz_ldcf K zq6_149 dX10_scale_59 ?_
          refine gz_fcmp K dX10_scale_61 ?_
          refine gz_if_gt K 73 dX10_scale_62 (by decide) (fun h => ?_) (fun h => ?_)
          · have hp := hp.1 h
            refine gz_aload_n K dX10_scale_73 1 rfl ?_
            refine gz_iconst K (v := (3 : Int32)) dX10_scale_74 (by decide) ?_
            refine gz_callV K hex (c_X10_fails K.2.2.2.2.2 K.2.2.1 hp) cf_X10_fails zq5_149 (by decide) (ce_43 _ _ _ _ _ _) rfl dX10_scale_75 rfl rfl (Nat.le_of_ble_eq_true rfl) ⟨Nat.le_of_ble_eq_true rfl, Nat.le_of_ble_eq_true rfl⟩ ⟨Nat.le_of_ble_eq_true rfl, Nat.le_of_ble_eq_true rfl⟩ (Nat.le_of_ble_eq_true rfl) (Nat.le_of_ble_eq_true rfl) (fun _ _ h => h.elim) (fun r75 τ75 hp => ?_)
            refine gz_norm (st' := [.int r75]) (cells' := 0) (slots' := 0) rfl rfl rfl ?_
            exact gz_iret K hr hp dX10_scale_78 (Nat.le_of_ble_eq_true rfl) (Nat.le_of_ble_eq_true rfl)
          · have hp := hp.2 h
            refine gz_fload K dX10_scale_65 0 rfl ?_
            refine gz_ldcf K zq6_150 dX10_scale_67 ?_
            refine gz_fcmp K dX10_scale_69 ?_
            refine gz_if_ge K 79 dX10_scale_70 (by decide) (fun h => ?_) (fun h => ?_)
            · have hp := hp.1 h
              refine gz_aload_n K dX10_scale_79 1 rfl ?_
              refine gz_get K (v := .ref (ad 50)) (by decide) (ce_43 _ _ _ _ _ _) rfl inz_X10 10 (by decide) zq5_41 rfl dX10_scale_80 ?_
              refine gz_iload_n K dX10_scale_83 3 rfl ?_
              refine gz_fload K dX10_scale_84 0 rfl ?_
              obtain ⟨h, hp⟩ := hp
              refine gz_fast K (x := (FP.fmul (gz_f σ 50 (x2).toNatClampNeg) (FP.i2f x3))) (by decide) (ce_50 ad ty) h dX10_scale_86 ?_
              refine gz_aload_n K dX10_scale_87 1 rfl ?_
              refine gz_fload K dX10_scale_88 0 rfl ?_
              refine gz_f2i K dX10_scale_90 ?_
              refine gz_callV K hex (c_X10_done K.2.2.2.2.2 K.2.2.1 hp) cf_X10_done zq5_153 (by decide) (ce_43 _ _ _ _ _ _) rfl dX10_scale_91 rfl rfl (Nat.le_of_ble_eq_true rfl) ⟨Nat.le_of_ble_eq_true rfl, Nat.le_of_ble_eq_true rfl⟩ ⟨Nat.le_of_ble_eq_true rfl, Nat.le_of_ble_eq_true rfl⟩ (Nat.le_of_ble_eq_true rfl) (Nat.le_of_ble_eq_true rfl) (fun _ _ h => h.elim) (fun r91 τ91 hp => ?_)
              refine gz_norm (st' := [.int r91]) (cells' := 0) (slots' := 0) rfl rfl rfl ?_
              exact gz_iret K hr hp dX10_scale_94 (Nat.le_of_ble_eq_true rfl) (Nat.le_of_ble_eq_true rfl)
            · have hp := hp.2 h
              refine gz_aload_n K dX10_scale_73 1 rfl ?_
              refine gz_iconst K (v := (3 : Int32)) dX10_scale_74 (by decide) ?_
              refine gz_callV K hex (c_X10_fails K.2.2.2.2.2 K.2.2.1 hp) cf_X10_fails zq5_149 (by decide) (ce_43 _ _ _ _ _ _) rfl dX10_scale_75 rfl rfl (Nat.le_of_ble_eq_true rfl) ⟨Nat.le_of_ble_eq_true rfl, Nat.le_of_ble_eq_true rfl⟩ ⟨Nat.le_of_ble_eq_true rfl, Nat.le_of_ble_eq_true rfl⟩ (Nat.le_of_ble_eq_true rfl) (Nat.le_of_ble_eq_true rfl) (fun _ _ h => h.elim) (fun r75 τ75 hp => ?_)
              refine gz_norm (st' := [.int r75]) (cells' := 0) (slots' := 0) rfl rfl rfl ?_
              exact gz_iret K hr hp dX10_scale_78 (Nat.le_of_ble_eq_true rfl) (Nat.le_of_ble_eq_true rfl)
      · have hp := hp.2 h
        refine gz_aload_n K dX10_scale_36 0 rfl ?_
        refine gz_iconst K (v := (2 : Int32)) dX10_scale_37 (by decide) ?_
        refine gz_callV K hex (c_X10_fails K.2.2.2.2.2 K.2.2.1 hp) cf_X10_fails zq5_149 (by decide) (ce_43 _ _ _ _ _ _) rfl dX10_scale_38 rfl rfl (Nat.le_of_ble_eq_true rfl) ⟨Nat.le_of_ble_eq_true rfl, Nat.le_of_ble_eq_true rfl⟩ ⟨Nat.le_of_ble_eq_true rfl, Nat.le_of_ble_eq_true rfl⟩ (Nat.le_of_ble_eq_true rfl) (Nat.le_of_ble_eq_true rfl) (fun _ _ h => h.elim) (fun r38 τ38 hp => ?_)
        refine gz_norm (st' := [.int r38]) (cells' := 0) (slots' := 0) rfl rfl rfl ?_
        exact gz_iret K hr hp dX10_scale_41 (Nat.le_of_ble_eq_true rfl) (Nat.le_of_ble_eq_true rfl)
    · have hp := hp.2 h
      refine gz_aload_n K dX10_scale_17 0 rfl ?_
      refine gz_iconst K (v := (1 : Int32)) dX10_scale_18 (by decide) ?_
      refine gz_callV K hex (c_X10_fails K.2.2.2.2.2 K.2.2.1 hp) cf_X10_fails zq5_149 (by decide) (ce_43 _ _ _ _ _ _) rfl dX10_scale_19 rfl rfl (Nat.le_of_ble_eq_true rfl) ⟨Nat.le_of_ble_eq_true rfl, Nat.le_of_ble_eq_true rfl⟩ ⟨Nat.le_of_ble_eq_true rfl, Nat.le_of_ble_eq_true rfl⟩ (Nat.le_of_ble_eq_true rfl) (Nat.le_of_ble_eq_true rfl) (fun _ _ h => h.elim) (fun r19 τ19 hp => ?_)
      refine gz_norm (st' := [.int r19]) (cells' := 0) (slots' := 0) rfl rfl rfl ?_
      exact gz_iret K hr hp dX10_scale_22 (Nat.le_of_ble_eq_true rfl) (Nat.le_of_ble_eq_true rfl)
set_option maxRecDepth 100000 in
set_option maxHeartbeats 4000000 in
theorem c_X10_remainder {l : Launch} {D : va_G} {ad : Nat → Nat} {ty : Nat → ClassId} (hl : l.stackTraces = false) (hj : ∀ i j, i < 68 → j < 68 → ad i = ad j → i = j) {σ : Dz} {x1 : Int32} {x2 : Int32} {x3 : Int32} {post : UInt64 → Dz → Prop} (hp : P_X10_remainder σ x1 x2 x3 post) : Mz l D ad ty yX10_remainder cX10_remainder 4 (some .double) r_X10_remainder nD0 σ [.ref (ad 43), .int x1, .int x2, .int x3] post (fun _ _ => False) := by
  refine mz_of (by decide) hl hj (Nat.le_of_ble_eq_true rfl) ?_
  intro p e s m args below meth c K hex hr
  unfold P_X10_remainder at hp
  have bb_31 : ∀ (σ : Dz) (y1 : Int32) (y2 : Int32) (y3 : Int32) (z0 : Int32) , B_X10_remainder_31 post  σ y1 y2 y3 z0 → Gz p l e r_X10_remainder s m args below meth c D ad ty 4 0 0 (Ez below D ad ty nD0 post (fun _ _ => False) args s 0 0) σ 31 [(0, .ref (ad 43)), (1, .int y1), (2, .int y2), (3, .int y3)] [.int z0, .ref (ad 43)] := by
    intro σ y1 y2 y3 z0 hp
    unfold B_X10_remainder_31 at hp
    refine gz_put K (x := z0) (by decide) (ce_43 _ _ _ _ _ _) rfl inz_X10 tyX10 tyX10_ok nmX10 0 (by decide) zq5_31 rfl (tyX10_ok _ (by decide)) rfl rfl (Nat.le_of_ble_eq_true rfl) peX10_0 dX10_remainder_31 ?_
    refine gz_aload_n K dX10_remainder_34 0 rfl ?_
    refine gz_get K (v := .int (gz_i (sz_i σ 43 0 z0) 43 0)) (by decide) (ce_43 _ _ _ _ _ _) rfl inz_X10 0 (by decide) zq5_31 rfl dX10_remainder_35 ?_
    refine gz_if_eq K 43 dX10_remainder_38 (by decide) (fun h => ?_) (fun h => ?_)
    · have hp := hp.1 h
      refine gz_iload_n K dX10_remainder_43 1 rfl ?_
      refine gz_if_ne K 60 dX10_remainder_44 (by decide) (fun h => ?_) (fun h => ?_)
      · have hp := hp.1 h
        refine gz_aload_n K dX10_remainder_60 0 rfl ?_
        refine gz_get K (v := .ref (ad 51)) (by decide) (ce_43 _ _ _ _ _ _) rfl inz_X10 11 (by decide) zq5_42 rfl dX10_remainder_61 ?_
        refine gz_iload_n K dX10_remainder_64 2 rfl ?_
        obtain ⟨h, hp⟩ := hp
        refine gz_dald K (by decide) (ce_51 _ _ _ _ _ _) h dX10_remainder_65 ?_
        refine gz_iload_n K dX10_remainder_66 3 rfl ?_
        refine gz_i2d K dX10_remainder_67 ?_
        obtain ⟨h, hp⟩ := hp
        refine gz_drem K dX10_remainder_68 h ?_
        exact gz_dret K hr hp dX10_remainder_69 (Nat.le_of_ble_eq_true rfl) (Nat.le_of_ble_eq_true rfl)
      · have hp := hp.2 h
        refine gz_aload_n K dX10_remainder_47 0 rfl ?_
        refine gz_get K (v := .ref (ad 50)) (by decide) (ce_43 _ _ _ _ _ _) rfl inz_X10 10 (by decide) zq5_41 rfl dX10_remainder_48 ?_
        refine gz_iload_n K dX10_remainder_51 2 rfl ?_
        obtain ⟨h, hp⟩ := hp
        refine gz_fald K (by decide) (ce_50 _ _ _ _ _ _) h dX10_remainder_52 ?_
        refine gz_iload_n K dX10_remainder_53 3 rfl ?_
        refine gz_i2f K dX10_remainder_54 ?_
        obtain ⟨h, hp⟩ := hp
        refine gz_frem K dX10_remainder_55 h ?_
        obtain ⟨h, hp⟩ := hp
        refine gz_f2d K dX10_remainder_56 h ?_
        refine gz_goto K 69 dX10_remainder_57 (by decide) ?_
        exact gz_dret K hr hp dX10_remainder_69 (Nat.le_of_ble_eq_true rfl) (Nat.le_of_ble_eq_true rfl)
    · have hp := hp.2 h
      refine gz_dconst0 K dX10_remainder_41 ?_
      exact gz_dret K hr hp dX10_remainder_42 (Nat.le_of_ble_eq_true rfl) (Nat.le_of_ble_eq_true rfl)
  have bb_18 : ∀ (σ : Dz) (y1 : Int32) (y2 : Int32) (y3 : Int32) , B_X10_remainder_18 post  σ y1 y2 y3 → Gz p l e r_X10_remainder s m args below meth c D ad ty 4 0 0 (Ez below D ad ty nD0 post (fun _ _ => False) args s 0 0) σ 18 [(0, .ref (ad 43)), (1, .int y1), (2, .int y2), (3, .int y3)] [.ref (ad 43)] := by
    intro σ y1 y2 y3 hp
    unfold B_X10_remainder_18 at hp
    refine gz_iconst K (v := (1 : Int32)) dX10_remainder_18 (by decide) ?_
    refine gz_goto K 31 dX10_remainder_19 (by decide) ?_
    exact bb_31 σ y1 y2 y3 (1 : Int32)  hp
  show Gz p l e r_X10_remainder s m args below meth c D ad ty 4 0 0 (Ez below D ad ty nD0 post (fun _ _ => False) args s 0 0) σ 0 [(0, .ref (ad 43)), (1, .int x1), (2, .int x2), (3, .int x3)] []
  refine gz_aload_n K dX10_remainder_0 0 rfl ?_
  refine gz_iload_n K dX10_remainder_1 1 rfl ?_
  refine gz_callS K hex (c_X10_isRow K.2.2.2.2.2 K.2.2.1 hp) cf_X10_isRow zq6_142 dX10_remainder_2 rfl rfl (Nat.le_of_ble_eq_true rfl) ⟨Nat.le_of_ble_eq_true rfl, Nat.le_of_ble_eq_true rfl⟩ ⟨Nat.le_of_ble_eq_true rfl, Nat.le_of_ble_eq_true rfl⟩ (Nat.le_of_ble_eq_true rfl) (Nat.le_of_ble_eq_true rfl) (fun _ _ h => h.elim) (fun r2 τ hp => ?_)
  obtain ⟨rfl, hp⟩ := hp
  refine gz_norm (st' := [.int r2, .ref (ad 43)]) (cells' := 0) (slots' := 0) rfl rfl rfl ?_
  refine gz_if_eq K 18 dX10_remainder_5 (by decide) (fun h => ?_) (fun h => ?_)
  · have hp := hp.1 h
    exact bb_18 σ x1 x2 x3  hp
  · have hp := hp.2 h
    refine gz_iload_n K dX10_remainder_8 2 rfl ?_
    refine gz_iconst K (v := (0 : Int32)) dX10_remainder_9 (by decide) ?_
    refine gz_bipush K (v := (23 : Int32)) dX10_remainder_10 (by decide) ?_
    refine gz_callS K hex (c_X10_in K.2.2.2.2.2 K.2.2.1 hp) cf_X10_in zq5_146 dX10_remainder_12 rfl rfl (Nat.le_of_ble_eq_true rfl) ⟨Nat.le_of_ble_eq_true rfl, Nat.le_of_ble_eq_true rfl⟩ ⟨Nat.le_of_ble_eq_true rfl, Nat.le_of_ble_eq_true rfl⟩ (Nat.le_of_ble_eq_true rfl) (Nat.le_of_ble_eq_true rfl) (fun _ _ h => h.elim) (fun r12 τ hp => ?_)
    obtain ⟨rfl, hp⟩ := hp
    refine gz_norm (st' := [.int r12, .ref (ad 43)]) (cells' := 0) (slots' := 0) rfl rfl rfl ?_
    refine gz_if_ne K 22 dX10_remainder_15 (by decide) (fun h => ?_) (fun h => ?_)
    · have hp := hp.1 h
      refine gz_iload_n K dX10_remainder_22 3 rfl ?_
      refine gz_if_ne K 30 dX10_remainder_23 (by decide) (fun h => ?_) (fun h => ?_)
      · have hp := hp.1 h
        refine gz_iconst K (v := (0 : Int32)) dX10_remainder_30 (by decide) ?_
        exact bb_31 σ x1 x2 x3 (0 : Int32)  hp
      · have hp := hp.2 h
        refine gz_iconst K (v := (2 : Int32)) dX10_remainder_26 (by decide) ?_
        refine gz_goto K 31 dX10_remainder_27 (by decide) ?_
        exact bb_31 σ x1 x2 x3 (2 : Int32)  hp
    · have hp := hp.2 h
      exact bb_18 σ x1 x2 x3  hp
set_option maxRecDepth 100000 in
set_option maxHeartbeats 4000000 in
theorem c_X10_copy {l : Launch} {D : va_G} {ad : Nat → Nat} {ty : Nat → ClassId} (hl : l.stackTraces = false) (hj : ∀ i j, i < 68 → j < 68 → ad i = ad j → i = j) {σ : Dz} {a0 : Nat} {n0 : Nat} {a1 : Nat} {n1 : Nat} (h0 : isA a0 n0) (h1 : isA a1 n1) {post : Dz → Prop} (hp : P_X10_copy σ a0 n0 a1 n1 post) : Mz l D ad ty yX10_copy cX10_copy 3 none r_X10_copy nV0 σ [.ref (ad a0), .ref (ad a1)] (fun _ τ => post τ) (fun _ _ => False) := by
  refine mz_of (by decide) hl hj (Nat.le_of_ble_eq_true rfl) ?_
  intro p e s m args below meth c K hex hr
  unfold P_X10_copy at hp
  show Gz p l e r_X10_copy s m args below meth c D ad ty 3 0 0 (Ez below D ad ty nV0 (fun _ τ => post τ) (fun _ _ => False) args s 0 0) σ 0 [(0, .ref (ad a0)), (1, .ref (ad a1))] []
  refine gz_iconst K (v := (0 : Int32)) dX10_copy_0 (by decide) ?_
  refine gz_istore_n K [(2, .int (0 : Int32)), (0, .ref (ad a0)), (1, .ref (ad a1))] dX10_copy_1 (by decide) rfl ?_
  refine gz_sub [1, 2, 0] rfl ?_
  have ll_2 : ∀ (n_2 : Nat) (σ : Dz) (y2 : Int32) , L_X10_copy_2 a0 n0 a1 n1 post  n_2 σ y2 → Gz p l e r_X10_copy s m args below meth c D ad ty 3 0 0 (Ez below D ad ty nV0 (fun _ τ => post τ) (fun _ _ => False) args s 0 0) σ 2 [(0, .ref (ad a0)), (1, .ref (ad a1)), (2, .int y2)] [] := by
    intro n_2; induction n_2 with
    | zero => intro σ y2 hp; exact False.elim hp
    | succ n_2 ih_2 =>
      intro σ y2 hp
      have hp : B_X10_copy_2 a0 n0 a1 n1 post  (L_X10_copy_2 a0 n0 a1 n1 post  n_2) σ y2 := hp
      unfold B_X10_copy_2 at hp
      refine gz_iload_n K dX10_copy_2 2 rfl ?_
      refine gz_aload_n K dX10_copy_3 0 rfl ?_
      refine gz_alen K (v := (Int32.ofNat n0)) 3 rfl h0.1 (h0.2 _ _ _ _ _ _) rfl dX10_copy_4 ?_
      refine gz_icmp_ge K 20 dX10_copy_5 (by decide) (fun h => ?_) (fun h => ?_)
      · have hp := hp.1 h
        exact gz_vret K hr hp dX10_copy_20 (Nat.le_of_ble_eq_true rfl) (Nat.le_of_ble_eq_true rfl)
      · have hp := hp.2 h
        refine gz_aload_n K dX10_copy_8 1 rfl ?_
        refine gz_iload_n K dX10_copy_9 2 rfl ?_
        refine gz_aload_n K dX10_copy_10 0 rfl ?_
        refine gz_iload_n K dX10_copy_11 2 rfl ?_
        obtain ⟨h, hp⟩ := hp
        refine gz_iald K h0.1 (h0.2 _ _ _ _ _ _) h dX10_copy_12 ?_
        obtain ⟨h, hp⟩ := hp
        refine gz_iast K (x := (gz_i σ a0 (y2).toNatClampNeg)) h1.1 (h1.2 ad ty) h dX10_copy_13 ?_
        refine gz_iinc K (v := (y2 + 1)) [(2, .int (y2 + 1)), (0, .ref (ad a0)), (1, .ref (ad a1))] dX10_copy_14 2 rfl (by first | rfl | decide) (by decide) rfl ?_
        refine gz_goto K 2 dX10_copy_17 (by decide) ?_
        refine gz_sub [1, 2, 0] rfl ?_
        exact ih_2 (sz_i σ a1 (y2).toNatClampNeg (gz_i σ a0 (y2).toNatClampNeg)) (y2 + 1)  hp
  obtain ⟨n, hp⟩ := hp
  exact ll_2 n σ (0 : Int32)  hp
set_option maxRecDepth 100000 in
set_option maxHeartbeats 4000000 in
theorem c_X10_snapshot {l : Launch} {D : va_G} {ad : Nat → Nat} {ty : Nat → ClassId} (hl : l.stackTraces = false) (hj : ∀ i j, i < 68 → j < 68 → ad i = ad j → i = j) {σ : Dz} {post : Dz → Prop} (hp : P_X10_snapshot σ post) : Mz l D ad ty yX10_snapshot cX10_snapshot 2 none r_X10_snapshot nV0 σ [.ref (ad 43)] (fun _ τ => post τ) (fun _ _ => False) := by
  refine mz_of (by decide) hl hj (Nat.le_of_ble_eq_true rfl) ?_
  intro p e s m args below meth c K hex hr
  unfold P_X10_snapshot at hp
  show Gz p l e r_X10_snapshot s m args below meth c D ad ty 2 0 0 (Ez below D ad ty nV0 (fun _ τ => post τ) (fun _ _ => False) args s 0 0) σ 0 [(0, .ref (ad 43))] []
  refine gz_aload_n K dX10_snapshot_0 0 rfl ?_
  refine gz_iconst K (v := (0 : Int32)) dX10_snapshot_1 (by decide) ?_
  refine gz_put K (x := (0 : Int32)) (by decide) (ce_43 _ _ _ _ _ _) rfl inz_X10 tyX10 tyX10_ok nmX10 0 (by decide) zq5_31 rfl (tyX10_ok _ (by decide)) rfl rfl (Nat.le_of_ble_eq_true rfl) peX10_0 dX10_snapshot_2 ?_
  refine gz_aload_n K dX10_snapshot_5 0 rfl ?_
  refine gz_iconst K (v := (1 : Int32)) dX10_snapshot_6 (by decide) ?_
  refine gz_put K (x := (1 : Int32)) (by decide) (ce_43 _ _ _ _ _ _) rfl inz_X10 tyX10 tyX10_ok nmX10 12 (by decide) zq5_43 rfl (tyX10_ok _ (by decide)) rfl rfl (Nat.le_of_ble_eq_true rfl) peX10_12 dX10_snapshot_7 ?_
  refine gz_aload_n K dX10_snapshot_10 0 rfl ?_
  refine gz_get K (v := .ref (ad 44)) (by decide) (ce_43 _ _ _ _ _ _) rfl inz_X10 2 (by decide) zq5_33 rfl dX10_snapshot_11 ?_
  refine gz_aload_n K dX10_snapshot_14 0 rfl ?_
  refine gz_get K (v := .ref (ad 52)) (by decide) (ce_43 _ _ _ _ _ _) rfl inz_X10 13 (by decide) zq5_44 rfl dX10_snapshot_15 ?_
  refine gz_callS K hex (c_X10_copy K.2.2.2.2.2 K.2.2.1 ⟨by decide, fun ad ty => ce_44 ad ty⟩ ⟨by decide, fun ad ty => ce_52 ad ty⟩ hp) cf_X10_copy zq6_161 dX10_snapshot_18 rfl rfl (Nat.le_of_ble_eq_true rfl) ⟨Nat.le_of_ble_eq_true rfl, Nat.le_of_ble_eq_true rfl⟩ ⟨Nat.le_of_ble_eq_true rfl, Nat.le_of_ble_eq_true rfl⟩ (Nat.le_of_ble_eq_true rfl) (Nat.le_of_ble_eq_true rfl) (fun _ _ h => h.elim) (fun _ τ18 hp => ?_)
  refine gz_norm (st' := []) (cells' := 0) (slots' := 0) rfl rfl rfl ?_
  refine gz_aload_n K dX10_snapshot_21 0 rfl ?_
  refine gz_get K (v := .ref (ad 46)) (by decide) (ce_43 _ _ _ _ _ _) rfl inz_X10 4 (by decide) zq5_35 rfl dX10_snapshot_22 ?_
  refine gz_aload_n K dX10_snapshot_25 0 rfl ?_
  refine gz_get K (v := .ref (ad 54)) (by decide) (ce_43 _ _ _ _ _ _) rfl inz_X10 15 (by decide) zq5_46 rfl dX10_snapshot_26 ?_
  refine gz_callS K hex (c_X10_copy K.2.2.2.2.2 K.2.2.1 ⟨by decide, fun ad ty => ce_46 ad ty⟩ ⟨by decide, fun ad ty => ce_54 ad ty⟩ hp) cf_X10_copy zq6_161 dX10_snapshot_29 rfl rfl (Nat.le_of_ble_eq_true rfl) ⟨Nat.le_of_ble_eq_true rfl, Nat.le_of_ble_eq_true rfl⟩ ⟨Nat.le_of_ble_eq_true rfl, Nat.le_of_ble_eq_true rfl⟩ (Nat.le_of_ble_eq_true rfl) (Nat.le_of_ble_eq_true rfl) (fun _ _ h => h.elim) (fun _ τ29 hp => ?_)
  refine gz_norm (st' := []) (cells' := 0) (slots' := 0) rfl rfl rfl ?_
  refine gz_aload_n K dX10_snapshot_32 0 rfl ?_
  refine gz_get K (v := .ref (ad 47)) (by decide) (ce_43 _ _ _ _ _ _) rfl inz_X10 5 (by decide) zq5_36 rfl dX10_snapshot_33 ?_
  refine gz_aload_n K dX10_snapshot_36 0 rfl ?_
  refine gz_get K (v := .ref (ad 55)) (by decide) (ce_43 _ _ _ _ _ _) rfl inz_X10 16 (by decide) zq5_47 rfl dX10_snapshot_37 ?_
  refine gz_callS K hex (c_X10_copy K.2.2.2.2.2 K.2.2.1 ⟨by decide, fun ad ty => ce_47 ad ty⟩ ⟨by decide, fun ad ty => ce_55 ad ty⟩ hp) cf_X10_copy zq6_161 dX10_snapshot_40 rfl rfl (Nat.le_of_ble_eq_true rfl) ⟨Nat.le_of_ble_eq_true rfl, Nat.le_of_ble_eq_true rfl⟩ ⟨Nat.le_of_ble_eq_true rfl, Nat.le_of_ble_eq_true rfl⟩ (Nat.le_of_ble_eq_true rfl) (Nat.le_of_ble_eq_true rfl) (fun _ _ h => h.elim) (fun _ τ40 hp => ?_)
  refine gz_norm (st' := []) (cells' := 0) (slots' := 0) rfl rfl rfl ?_
  refine gz_aload_n K dX10_snapshot_43 0 rfl ?_
  refine gz_get K (v := .ref (ad 48)) (by decide) (ce_43 _ _ _ _ _ _) rfl inz_X10 6 (by decide) zq5_37 rfl dX10_snapshot_44 ?_
  refine gz_aload_n K dX10_snapshot_47 0 rfl ?_
  refine gz_get K (v := .ref (ad 56)) (by decide) (ce_43 _ _ _ _ _ _) rfl inz_X10 17 (by decide) zq5_48 rfl dX10_snapshot_48 ?_
  refine gz_callS K hex (c_X10_copy K.2.2.2.2.2 K.2.2.1 ⟨by decide, fun ad ty => ce_48 ad ty⟩ ⟨by decide, fun ad ty => ce_56 ad ty⟩ hp) cf_X10_copy zq6_161 dX10_snapshot_51 rfl rfl (Nat.le_of_ble_eq_true rfl) ⟨Nat.le_of_ble_eq_true rfl, Nat.le_of_ble_eq_true rfl⟩ ⟨Nat.le_of_ble_eq_true rfl, Nat.le_of_ble_eq_true rfl⟩ (Nat.le_of_ble_eq_true rfl) (Nat.le_of_ble_eq_true rfl) (fun _ _ h => h.elim) (fun _ τ51 hp => ?_)
  refine gz_norm (st' := []) (cells' := 0) (slots' := 0) rfl rfl rfl ?_
  refine gz_iconst K (v := (0 : Int32)) dX10_snapshot_54 (by decide) ?_
  refine gz_istore_n K [(1, .int (0 : Int32)), (0, .ref (ad 43))] dX10_snapshot_55 (by decide) rfl ?_
  refine gz_sub [1, 0] rfl ?_
  have ll_56 : ∀ (n_56 : Nat) (σ : Dz) (y1 : Int32) , L_X10_snapshot_56 post  n_56 σ y1 → Gz p l e r_X10_snapshot s m args below meth c D ad ty 2 0 0 (Ez below D ad ty nV0 (fun _ τ => post τ) (fun _ _ => False) args s 0 0) σ 56 [(0, .ref (ad 43)), (1, .int y1)] [] := by
    intro n_56; induction n_56 with
    | zero => intro σ y1 hp; exact False.elim hp
    | succ n_56 ih_56 =>
      intro σ y1 hp
      have hp : B_X10_snapshot_56 post  (L_X10_snapshot_56 post  n_56) σ y1 := hp
      unfold B_X10_snapshot_56 at hp
      refine gz_iload_n K dX10_snapshot_56 1 rfl ?_
      refine gz_iconst K (v := (5 : Int32)) dX10_snapshot_57 (by decide) ?_
      refine gz_icmp_ge K 79 dX10_snapshot_58 (by decide) (fun h => ?_) (fun h => ?_)
      · have hp := hp.1 h
        exact gz_vret K hr hp dX10_snapshot_79 (Nat.le_of_ble_eq_true rfl) (Nat.le_of_ble_eq_true rfl)
      · have hp := hp.2 h
        refine gz_aload_n K dX10_snapshot_61 0 rfl ?_
        refine gz_get K (v := .ref (ad 53)) (by decide) (ce_43 _ _ _ _ _ _) rfl inz_X10 14 (by decide) zq5_45 rfl dX10_snapshot_62 ?_
        refine gz_iload_n K dX10_snapshot_65 1 rfl ?_
        refine gz_aload_n K dX10_snapshot_66 0 rfl ?_
        refine gz_get K (v := .ref (ad 45)) (by decide) (ce_43 _ _ _ _ _ _) rfl inz_X10 3 (by decide) zq5_34 rfl dX10_snapshot_67 ?_
        refine gz_iload_n K dX10_snapshot_70 1 rfl ?_
        obtain ⟨h, hp⟩ := hp
        refine gz_zald K (by decide) (ce_45 _ _ _ _ _ _) h dX10_snapshot_71 ?_
        obtain ⟨hb72, hp⟩ := hp
        obtain ⟨h, hp⟩ := hp
        refine gz_zastB K (x := (gz_i σ 45 (y1).toNatClampNeg)) (by decide) (ce_53 ad ty) h hb72 dX10_snapshot_72 ?_
        refine gz_iinc K (v := (y1 + 1)) [(1, .int (y1 + 1)), (0, .ref (ad 43))] dX10_snapshot_73 1 rfl (by first | rfl | decide) (by decide) rfl ?_
        refine gz_goto K 56 dX10_snapshot_76 (by decide) ?_
        refine gz_sub [1, 0] rfl ?_
        exact ih_56 (sz_i σ 53 (y1).toNatClampNeg (gz_i σ 45 (y1).toNatClampNeg)) (y1 + 1)  hp
  obtain ⟨n, hp⟩ := hp
  exact ll_56 n τ51 (0 : Int32)  hp
set_option maxRecDepth 100000 in
set_option maxHeartbeats 4000000 in
theorem c_X10_restore {l : Launch} {D : va_G} {ad : Nat → Nat} {ty : Nat → ClassId} (hl : l.stackTraces = false) (hj : ∀ i j, i < 68 → j < 68 → ad i = ad j → i = j) {σ : Dz} {post : Dz → Prop} (hp : P_X10_restore σ post) : Mz l D ad ty yX10_restore cX10_restore 2 none r_X10_restore nV0 σ [.ref (ad 43)] (fun _ τ => post τ) (fun _ _ => False) := by
  refine mz_of (by decide) hl hj (Nat.le_of_ble_eq_true rfl) ?_
  intro p e s m args below meth c K hex hr
  unfold P_X10_restore at hp
  have bb_13 : ∀ (σ : Dz) (z0 : Int32) , B_X10_restore_13 post  σ z0 → Gz p l e r_X10_restore s m args below meth c D ad ty 2 0 0 (Ez below D ad ty nV0 (fun _ τ => post τ) (fun _ _ => False) args s 0 0) σ 13 [(0, .ref (ad 43))] [.int z0, .ref (ad 43)] := by
    intro σ z0 hp
    unfold B_X10_restore_13 at hp
    refine gz_put K (x := z0) (by decide) (ce_43 _ _ _ _ _ _) rfl inz_X10 tyX10 tyX10_ok nmX10 0 (by decide) zq5_31 rfl (tyX10_ok _ (by decide)) rfl rfl (Nat.le_of_ble_eq_true rfl) peX10_0 dX10_restore_13 ?_
    refine gz_aload_n K dX10_restore_16 0 rfl ?_
    refine gz_get K (v := .int (gz_i (sz_i σ 43 0 z0) 43 0)) (by decide) (ce_43 _ _ _ _ _ _) rfl inz_X10 0 (by decide) zq5_31 rfl dX10_restore_17 ?_
    refine gz_if_eq K 24 dX10_restore_20 (by decide) (fun h => ?_) (fun h => ?_)
    · have hp := hp.1 h
      refine gz_aload_n K dX10_restore_24 0 rfl ?_
      refine gz_get K (v := .ref (ad 52)) (by decide) (ce_43 _ _ _ _ _ _) rfl inz_X10 13 (by decide) zq5_44 rfl dX10_restore_25 ?_
      refine gz_aload_n K dX10_restore_28 0 rfl ?_
      refine gz_get K (v := .ref (ad 44)) (by decide) (ce_43 _ _ _ _ _ _) rfl inz_X10 2 (by decide) zq5_33 rfl dX10_restore_29 ?_
      refine gz_callS K hex (c_X10_copy K.2.2.2.2.2 K.2.2.1 ⟨by decide, fun ad ty => ce_52 ad ty⟩ ⟨by decide, fun ad ty => ce_44 ad ty⟩ hp) cf_X10_copy zq6_161 dX10_restore_32 rfl rfl (Nat.le_of_ble_eq_true rfl) ⟨Nat.le_of_ble_eq_true rfl, Nat.le_of_ble_eq_true rfl⟩ ⟨Nat.le_of_ble_eq_true rfl, Nat.le_of_ble_eq_true rfl⟩ (Nat.le_of_ble_eq_true rfl) (Nat.le_of_ble_eq_true rfl) (fun _ _ h => h.elim) (fun _ τ32 hp => ?_)
      refine gz_norm (st' := []) (cells' := 0) (slots' := 0) rfl rfl rfl ?_
      refine gz_aload_n K dX10_restore_35 0 rfl ?_
      refine gz_get K (v := .ref (ad 54)) (by decide) (ce_43 _ _ _ _ _ _) rfl inz_X10 15 (by decide) zq5_46 rfl dX10_restore_36 ?_
      refine gz_aload_n K dX10_restore_39 0 rfl ?_
      refine gz_get K (v := .ref (ad 46)) (by decide) (ce_43 _ _ _ _ _ _) rfl inz_X10 4 (by decide) zq5_35 rfl dX10_restore_40 ?_
      refine gz_callS K hex (c_X10_copy K.2.2.2.2.2 K.2.2.1 ⟨by decide, fun ad ty => ce_54 ad ty⟩ ⟨by decide, fun ad ty => ce_46 ad ty⟩ hp) cf_X10_copy zq6_161 dX10_restore_43 rfl rfl (Nat.le_of_ble_eq_true rfl) ⟨Nat.le_of_ble_eq_true rfl, Nat.le_of_ble_eq_true rfl⟩ ⟨Nat.le_of_ble_eq_true rfl, Nat.le_of_ble_eq_true rfl⟩ (Nat.le_of_ble_eq_true rfl) (Nat.le_of_ble_eq_true rfl) (fun _ _ h => h.elim) (fun _ τ43 hp => ?_)
      refine gz_norm (st' := []) (cells' := 0) (slots' := 0) rfl rfl rfl ?_
      refine gz_aload_n K dX10_restore_46 0 rfl ?_
      refine gz_get K (v := .ref (ad 55)) (by decide) (ce_43 _ _ _ _ _ _) rfl inz_X10 16 (by decide) zq5_47 rfl dX10_restore_47 ?_
      refine gz_aload_n K dX10_restore_50 0 rfl ?_
      refine gz_get K (v := .ref (ad 47)) (by decide) (ce_43 _ _ _ _ _ _) rfl inz_X10 5 (by decide) zq5_36 rfl dX10_restore_51 ?_
      refine gz_callS K hex (c_X10_copy K.2.2.2.2.2 K.2.2.1 ⟨by decide, fun ad ty => ce_55 ad ty⟩ ⟨by decide, fun ad ty => ce_47 ad ty⟩ hp) cf_X10_copy zq6_161 dX10_restore_54 rfl rfl (Nat.le_of_ble_eq_true rfl) ⟨Nat.le_of_ble_eq_true rfl, Nat.le_of_ble_eq_true rfl⟩ ⟨Nat.le_of_ble_eq_true rfl, Nat.le_of_ble_eq_true rfl⟩ (Nat.le_of_ble_eq_true rfl) (Nat.le_of_ble_eq_true rfl) (fun _ _ h => h.elim) (fun _ τ54 hp => ?_)
      refine gz_norm (st' := []) (cells' := 0) (slots' := 0) rfl rfl rfl ?_
      refine gz_aload_n K dX10_restore_57 0 rfl ?_
      refine gz_get K (v := .ref (ad 56)) (by decide) (ce_43 _ _ _ _ _ _) rfl inz_X10 17 (by decide) zq5_48 rfl dX10_restore_58 ?_
      refine gz_aload_n K dX10_restore_61 0 rfl ?_
      refine gz_get K (v := .ref (ad 48)) (by decide) (ce_43 _ _ _ _ _ _) rfl inz_X10 6 (by decide) zq5_37 rfl dX10_restore_62 ?_
      refine gz_callS K hex (c_X10_copy K.2.2.2.2.2 K.2.2.1 ⟨by decide, fun ad ty => ce_56 ad ty⟩ ⟨by decide, fun ad ty => ce_48 ad ty⟩ hp) cf_X10_copy zq6_161 dX10_restore_65 rfl rfl (Nat.le_of_ble_eq_true rfl) ⟨Nat.le_of_ble_eq_true rfl, Nat.le_of_ble_eq_true rfl⟩ ⟨Nat.le_of_ble_eq_true rfl, Nat.le_of_ble_eq_true rfl⟩ (Nat.le_of_ble_eq_true rfl) (Nat.le_of_ble_eq_true rfl) (fun _ _ h => h.elim) (fun _ τ65 hp => ?_)
      refine gz_norm (st' := []) (cells' := 0) (slots' := 0) rfl rfl rfl ?_
      refine gz_iconst K (v := (0 : Int32)) dX10_restore_68 (by decide) ?_
      refine gz_istore_n K [(1, .int (0 : Int32)), (0, .ref (ad 43))] dX10_restore_69 (by decide) rfl ?_
      refine gz_sub [1, 0] rfl ?_
      have ll_70 : ∀ (n_70 : Nat) (σ : Dz) (y1 : Int32) , L_X10_restore_70 post  n_70 σ y1 → Gz p l e r_X10_restore s m args below meth c D ad ty 2 0 0 (Ez below D ad ty nV0 (fun _ τ => post τ) (fun _ _ => False) args s 0 0) σ 70 [(0, .ref (ad 43)), (1, .int y1)] [] := by
        intro n_70; induction n_70 with
        | zero => intro σ y1 hp; exact False.elim hp
        | succ n_70 ih_70 =>
          intro σ y1 hp
          have hp : B_X10_restore_70 post  (L_X10_restore_70 post  n_70) σ y1 := hp
          unfold B_X10_restore_70 at hp
          refine gz_iload_n K dX10_restore_70 1 rfl ?_
          refine gz_iconst K (v := (5 : Int32)) dX10_restore_71 (by decide) ?_
          refine gz_icmp_ge K 93 dX10_restore_72 (by decide) (fun h => ?_) (fun h => ?_)
          · have hp := hp.1 h
            refine gz_aload_n K dX10_restore_93 0 rfl ?_
            refine gz_iconst K (v := (0 : Int32)) dX10_restore_94 (by decide) ?_
            refine gz_put K (x := (0 : Int32)) (by decide) (ce_43 _ _ _ _ _ _) rfl inz_X10 tyX10 tyX10_ok nmX10 27 (by decide) zq5_58 rfl (tyX10_ok _ (by decide)) rfl rfl (Nat.le_of_ble_eq_true rfl) peX10_27 dX10_restore_95 ?_
            exact gz_vret K hr hp dX10_restore_98 (Nat.le_of_ble_eq_true rfl) (Nat.le_of_ble_eq_true rfl)
          · have hp := hp.2 h
            refine gz_aload_n K dX10_restore_75 0 rfl ?_
            refine gz_get K (v := .ref (ad 45)) (by decide) (ce_43 _ _ _ _ _ _) rfl inz_X10 3 (by decide) zq5_34 rfl dX10_restore_76 ?_
            refine gz_iload_n K dX10_restore_79 1 rfl ?_
            refine gz_aload_n K dX10_restore_80 0 rfl ?_
            refine gz_get K (v := .ref (ad 53)) (by decide) (ce_43 _ _ _ _ _ _) rfl inz_X10 14 (by decide) zq5_45 rfl dX10_restore_81 ?_
            refine gz_iload_n K dX10_restore_84 1 rfl ?_
            obtain ⟨h, hp⟩ := hp
            refine gz_zald K (by decide) (ce_53 _ _ _ _ _ _) h dX10_restore_85 ?_
            obtain ⟨hb86, hp⟩ := hp
            obtain ⟨h, hp⟩ := hp
            refine gz_zastB K (x := (gz_i σ 53 (y1).toNatClampNeg)) (by decide) (ce_45 ad ty) h hb86 dX10_restore_86 ?_
            refine gz_iinc K (v := (y1 + 1)) [(1, .int (y1 + 1)), (0, .ref (ad 43))] dX10_restore_87 1 rfl (by first | rfl | decide) (by decide) rfl ?_
            refine gz_goto K 70 dX10_restore_90 (by decide) ?_
            refine gz_sub [1, 0] rfl ?_
            exact ih_70 (sz_i σ 45 (y1).toNatClampNeg (gz_i σ 53 (y1).toNatClampNeg)) (y1 + 1)  hp
      obtain ⟨n, hp⟩ := hp
      exact ll_70 n τ65 (0 : Int32)  hp
    · have hp := hp.2 h
      exact gz_vret K hr hp dX10_restore_23 (Nat.le_of_ble_eq_true rfl) (Nat.le_of_ble_eq_true rfl)
  show Gz p l e r_X10_restore s m args below meth c D ad ty 2 0 0 (Ez below D ad ty nV0 (fun _ τ => post τ) (fun _ _ => False) args s 0 0) σ 0 [(0, .ref (ad 43))] []
  refine gz_aload_n K dX10_restore_0 0 rfl ?_
  refine gz_aload_n K dX10_restore_1 0 rfl ?_
  refine gz_get K (v := .int (gz_i σ 43 12)) (by decide) (ce_43 _ _ _ _ _ _) rfl inz_X10 12 (by decide) zq5_43 rfl dX10_restore_2 ?_
  refine gz_if_eq K 12 dX10_restore_5 (by decide) (fun h => ?_) (fun h => ?_)
  · have hp := hp.1 h
    refine gz_iconst K (v := (1 : Int32)) dX10_restore_12 (by decide) ?_
    exact bb_13 σ (1 : Int32)  hp
  · have hp := hp.2 h
    refine gz_iconst K (v := (0 : Int32)) dX10_restore_8 (by decide) ?_
    refine gz_goto K 13 dX10_restore_9 (by decide) ?_
    exact bb_13 σ (0 : Int32)  hp
