/-! walks. Written by wip/whole/genall.py -/
set_option maxRecDepth 100000 in
set_option maxHeartbeats 4000000 in
theorem c_X4_isDefined {l : Launch} {D : va_G} {ad : Nat → Nat} {ty : Nat → ClassId} (hl : l.stackTraces = false) (hj : ∀ i j, i < 68 → j < 68 → ad i = ad j → i = j) {σ : Dz} {k : Nat} (hk : isS k) {x1 : Int32} {post : Int32 → Prop} (hp : P_X4_isDefined σ k x1 post) : Mz l D ad ty yX4_isDefined cX4_isDefined 2 (some .boolean) r_X4_isDefined nI0 σ [.ref (ad k), .int x1] (fun r τ => σ = τ ∧ post r) (fun _ _ => False) := by
  refine mz_of (by decide) hl hj (Nat.le_of_ble_eq_true rfl) ?_
  intro p e s m args below meth c K hex hr
  unfold P_X4_isDefined at hp
  show Gz p l e r_X4_isDefined s m args below meth c D ad ty 2 0 0 (Ez below D ad ty nI0 (fun r τ => σ = τ ∧ post r) (fun _ _ => False) args s 0 0) σ 0 [(0, .ref (ad k)), (1, .int x1)] []
  refine gz_aload_n K dX4_isDefined_0 0 rfl ?_
  refine gz_get K (v := .int (gz_i σ k 2)) (ceS hk).1 ((ceS hk).2 _ _ _ _ _ _) rfl inz_X4 2 (by decide) zq1_189 rfl dX4_isDefined_1 ?_
  refine gz_iload_n K dX4_isDefined_4 1 rfl ?_
  refine gz_iushr K dX4_isDefined_5 ?_
  refine gz_iconst K (v := (1 : Int32)) dX4_isDefined_6 (by decide) ?_
  refine gz_iand K dX4_isDefined_7 ?_
  refine gz_iconst K (v := (1 : Int32)) dX4_isDefined_8 (by decide) ?_
  refine gz_icmp_ne K 16 dX4_isDefined_9 (by decide) (fun h => ?_) (fun h => ?_)
  · have hp := hp.1 h
    refine gz_iconst K (v := (0 : Int32)) dX4_isDefined_16 (by decide) ?_
    exact gz_zret K hr (by decide) ⟨rfl, hp⟩ dX4_isDefined_17 (Nat.le_of_ble_eq_true rfl) (Nat.le_of_ble_eq_true rfl)
  · have hp := hp.2 h
    refine gz_iconst K (v := (1 : Int32)) dX4_isDefined_12 (by decide) ?_
    refine gz_goto K 17 dX4_isDefined_13 (by decide) ?_
    exact gz_zret K hr (by decide) ⟨rfl, hp⟩ dX4_isDefined_17 (Nat.le_of_ble_eq_true rfl) (Nat.le_of_ble_eq_true rfl)
set_option maxRecDepth 100000 in
set_option maxHeartbeats 4000000 in
theorem c_X4_effectOfLetter {l : Launch} {D : va_G} {ad : Nat → Nat} {ty : Nat → ClassId} (hl : l.stackTraces = false) (hj : ∀ i j, i < 68 → j < 68 → ad i = ad j → i = j) {σ : Dz} {k : Nat} (hk : isS k) {x1 : Int32} {post : Int32 → Prop} (hp : P_X4_effectOfLetter σ k x1 post) : Mz l D ad ty yX4_effectOfLetter cX4_effectOfLetter 2 (some .int) r_X4_effectOfLetter nI0 σ [.ref (ad k), .int x1] (fun r τ => σ = τ ∧ post r) (fun _ _ => False) := by
  refine mz_of (by decide) hl hj (Nat.le_of_ble_eq_true rfl) ?_
  intro p e s m args below meth c K hex hr
  unfold P_X4_effectOfLetter at hp
  show Gz p l e r_X4_effectOfLetter s m args below meth c D ad ty 2 0 0 (Ez below D ad ty nI0 (fun r τ => σ = τ ∧ post r) (fun _ _ => False) args s 0 0) σ 0 [(0, .ref (ad k)), (1, .int x1)] []
  refine gz_iload_n K dX4_effectOfLetter_0 1 rfl ?_
  refine gz_if_lt K 19 dX4_effectOfLetter_1 (by decide) (fun h => ?_) (fun h => ?_)
  · have hp := hp.1 h
    refine gz_ldc K zq1_166 dX4_effectOfLetter_19 ?_
    exact gz_iret K hr ⟨rfl, hp⟩ dX4_effectOfLetter_21 (Nat.le_of_ble_eq_true rfl) (Nat.le_of_ble_eq_true rfl)
  · have hp := hp.2 h
    refine gz_iload_n K dX4_effectOfLetter_4 1 rfl ?_
    refine gz_bipush K (v := (10 : Int32)) dX4_effectOfLetter_5 (by decide) ?_
    refine gz_icmp_ge K 19 dX4_effectOfLetter_7 (by decide) (fun h => ?_) (fun h => ?_)
    · have hp := hp.1 h
      refine gz_ldc K zq1_166 dX4_effectOfLetter_19 ?_
      exact gz_iret K hr ⟨rfl, hp⟩ dX4_effectOfLetter_21 (Nat.le_of_ble_eq_true rfl) (Nat.le_of_ble_eq_true rfl)
    · have hp := hp.2 h
      refine gz_aload_n K dX4_effectOfLetter_10 0 rfl ?_
      refine gz_get K (v := .ref (ad (k + 1))) (ceS hk).1 ((ceS hk).2 _ _ _ _ _ _) rfl inz_X4 0 (by decide) zq1_187 rfl dX4_effectOfLetter_11 ?_
      refine gz_iload_n K dX4_effectOfLetter_14 1 rfl ?_
      obtain ⟨h, hp⟩ := hp
      refine gz_iald K (caS hk).1 ((caS hk).2 _ _ _ _ _ _) h dX4_effectOfLetter_15 ?_
      refine gz_goto K 21 dX4_effectOfLetter_16 (by decide) ?_
      exact gz_iret K hr ⟨rfl, hp⟩ dX4_effectOfLetter_21 (Nat.le_of_ble_eq_true rfl) (Nat.le_of_ble_eq_true rfl)
set_option maxRecDepth 100000 in
set_option maxHeartbeats 4000000 in
theorem c_X3_imageOf {l : Launch} {D : va_G} {ad : Nat → Nat} {ty : Nat → ClassId} (hl : l.stackTraces = false) (hj : ∀ i j, i < 68 → j < 68 → ad i = ad j → i = j) {σ : Dz} {x0 : Int32} {x1 : Int32} {post : Int32 → Prop} (hp : P_X3_imageOf x0 x1 post) : Mz l D ad ty yX3_imageOf cX3_imageOf 2 (some .int) r_X3_imageOf nI0 σ [.int x0, .int x1] (fun r τ => σ = τ ∧ post r) (fun _ _ => False) := by
  refine mz_of (by decide) hl hj (Nat.le_of_ble_eq_true rfl) ?_
  intro p e s m args below meth c K hex hr
  unfold P_X3_imageOf at hp
  show Gz p l e r_X3_imageOf s m args below meth c D ad ty 2 0 0 (Ez below D ad ty nI0 (fun r τ => σ = τ ∧ post r) (fun _ _ => False) args s 0 0) σ 0 [(0, .int x0), (1, .int x1)] []
  refine gz_iload_n K dX3_imageOf_0 0 rfl ?_
  refine gz_iconst K (v := (3 : Int32)) dX3_imageOf_1 (by decide) ?_
  refine gz_iload_n K dX3_imageOf_2 1 rfl ?_
  refine gz_imul K dX3_imageOf_3 ?_
  refine gz_iushr K dX3_imageOf_4 ?_
  refine gz_bipush K (v := (7 : Int32)) dX3_imageOf_5 (by decide) ?_
  refine gz_iand K dX3_imageOf_7 ?_
  exact gz_iret K hr ⟨rfl, hp⟩ dX3_imageOf_8 (Nat.le_of_ble_eq_true rfl) (Nat.le_of_ble_eq_true rfl)
set_option maxRecDepth 100000 in
set_option maxHeartbeats 4000000 in
theorem c_X3_then {l : Launch} {D : va_G} {ad : Nat → Nat} {ty : Nat → ClassId} (hl : l.stackTraces = false) (hj : ∀ i j, i < 68 → j < 68 → ad i = ad j → i = j) {σ : Dz} {x0 : Int32} {x1 : Int32} {post : Int32 → Prop} (hp : P_X3_then x0 x1 post) : Mz l D ad ty yX3_then cX3_then 4 (some .int) r_X3_then nI0 σ [.int x0, .int x1] (fun r τ => σ = τ ∧ post r) (fun _ _ => False) := by
  refine mz_of (by decide) hl hj (Nat.le_of_ble_eq_true rfl) ?_
  intro p e s m args below meth c K hex hr
  unfold P_X3_then at hp
  show Gz p l e r_X3_then s m args below meth c D ad ty 4 0 0 (Ez below D ad ty nI0 (fun r τ => σ = τ ∧ post r) (fun _ _ => False) args s 0 0) σ 0 [(0, .int x0), (1, .int x1)] []
  refine gz_iconst K (v := (0 : Int32)) dX3_then_0 (by decide) ?_
  refine gz_istore_n K [(2, .int (0 : Int32)), (0, .int x0), (1, .int x1)] dX3_then_1 (by decide) rfl ?_
  refine gz_iconst K (v := (0 : Int32)) dX3_then_2 (by decide) ?_
  refine gz_istore_n K [(3, .int (0 : Int32)), (2, .int (0 : Int32)), (0, .int x0), (1, .int x1)] dX3_then_3 (by decide) rfl ?_
  refine gz_sub [2, 3, 1, 0] rfl ?_
  have ll_4 : ∀ (n_4 : Nat) (y0 : Int32) (y1 : Int32) (y2 : Int32) (y3 : Int32) , L_X3_then_4 post  n_4 y0 y1 y2 y3 → Gz p l e r_X3_then s m args below meth c D ad ty 4 0 0 (Ez below D ad ty nI0 (fun r τ => σ = τ ∧ post r) (fun _ _ => False) args s 0 0) σ 4 [(0, .int y0), (1, .int y1), (2, .int y2), (3, .int y3)] [] := by
    intro n_4; induction n_4 with
    | zero => intro y0 y1 y2 y3 hp; exact False.elim hp
    | succ n_4 ih_4 =>
      intro y0 y1 y2 y3 hp
      have hp : B_X3_then_4 post  (L_X3_then_4 post  n_4) y0 y1 y2 y3 := hp
      unfold B_X3_then_4 at hp
      refine gz_iload_n K dX3_then_4 3 rfl ?_
      refine gz_bipush K (v := (7 : Int32)) dX3_then_5 (by decide) ?_
      refine gz_icmp_ge K 32 dX3_then_7 (by decide) (fun h => ?_) (fun h => ?_)
      · have hp := hp.1 h
        refine gz_iload_n K dX3_then_32 2 rfl ?_
        exact gz_iret K hr ⟨rfl, hp⟩ dX3_then_33 (Nat.le_of_ble_eq_true rfl) (Nat.le_of_ble_eq_true rfl)
      · have hp := hp.2 h
        refine gz_iload_n K dX3_then_10 2 rfl ?_
        refine gz_iload_n K dX3_then_11 1 rfl ?_
        refine gz_iload_n K dX3_then_12 0 rfl ?_
        refine gz_iload_n K dX3_then_13 3 rfl ?_
        refine gz_callS K hex (c_X3_imageOf K.2.2.2.2.2 K.2.2.1 hp) cf_X3_imageOf zq2_50 dX3_then_14 rfl rfl (Nat.le_of_ble_eq_true rfl) ⟨Nat.le_of_ble_eq_true rfl, Nat.le_of_ble_eq_true rfl⟩ ⟨Nat.le_of_ble_eq_true rfl, Nat.le_of_ble_eq_true rfl⟩ (Nat.le_of_ble_eq_true rfl) (Nat.le_of_ble_eq_true rfl) (fun _ _ h => h.elim) (fun r14 τ hp => ?_)
        obtain ⟨rfl, hp⟩ := hp
        refine gz_norm (st' := [.int r14, .int y1, .int y2]) (cells' := 0) (slots' := 0) rfl rfl rfl ?_
        refine gz_callS K hex (c_X3_imageOf K.2.2.2.2.2 K.2.2.1 hp) cf_X3_imageOf zq2_50 dX3_then_17 rfl rfl (Nat.le_of_ble_eq_true rfl) ⟨Nat.le_of_ble_eq_true rfl, Nat.le_of_ble_eq_true rfl⟩ ⟨Nat.le_of_ble_eq_true rfl, Nat.le_of_ble_eq_true rfl⟩ (Nat.le_of_ble_eq_true rfl) (Nat.le_of_ble_eq_true rfl) (fun _ _ h => h.elim) (fun r17 τ hp => ?_)
        obtain ⟨rfl, hp⟩ := hp
        refine gz_norm (st' := [.int r17, .int y2]) (cells' := 0) (slots' := 0) rfl rfl rfl ?_
        refine gz_iconst K (v := (3 : Int32)) dX3_then_20 (by decide) ?_
        refine gz_iload_n K dX3_then_21 3 rfl ?_
        refine gz_imul K dX3_then_22 ?_
        refine gz_ishl K dX3_then_23 ?_
        refine gz_ior K dX3_then_24 ?_
        refine gz_istore_n K [(2, .int (y2 ||| (r17 <<< (((3 : Int32) * y3) &&& 31)))), (0, .int y0), (1, .int y1), (3, .int y3)] dX3_then_25 (by decide) rfl ?_
        refine gz_iinc K (v := (y3 + 1)) [(3, .int (y3 + 1)), (2, .int (y2 ||| (r17 <<< (((3 : Int32) * y3) &&& 31)))), (0, .int y0), (1, .int y1)] dX3_then_26 3 rfl (by first | rfl | decide) (by decide) rfl ?_
        refine gz_goto K 4 dX3_then_29 (by decide) ?_
        refine gz_sub [2, 3, 1, 0] rfl ?_
        exact ih_4 y0 y1 (y2 ||| (r17 <<< (((3 : Int32) * y3) &&& 31))) (y3 + 1)  hp
  obtain ⟨n, hp⟩ := hp
  exact ll_4 n x0 x1 (0 : Int32) (0 : Int32)  hp
set_option maxRecDepth 100000 in
set_option maxHeartbeats 4000000 in
theorem c_X0_listWords {l : Launch} {D : va_G} {ad : Nat → Nat} {ty : Nat → ClassId} (hl : l.stackTraces = false) (hj : ∀ i j, i < 68 → j < 68 → ad i = ad j → i = j) {σ : Dz} {k1 : Nat} (h1 : isS k1) {post : Dz → Prop} (hp : P_X0_listWords σ k1 post) : Mz l D ad ty yX0_listWords cX0_listWords 5 none r_X0_listWords nV0 σ [.ref (ad 9), .ref (ad k1)] (fun _ τ => post τ) (fun _ _ => False) := by
  refine mz_of (by decide) hl hj (Nat.le_of_ble_eq_true rfl) ?_
  intro p e s m args below meth c K hex hr
  unfold P_X0_listWords at hp
  have bb_75 : ∀ (σ : Dz) , B_X0_listWords_75 k1 post  σ → Gz p l e r_X0_listWords s m args below meth c D ad ty 5 0 0 (Ez below D ad ty nV0 (fun _ τ => post τ) (fun _ _ => False) args s 0 0) σ 75 [(0, .ref (ad 9))] [] := by
    intro σ hp
    unfold B_X0_listWords_75 at hp
    refine gz_aload_n K dX0_listWords_75 0 rfl ?_
    refine gz_get K (v := .int (gz_i σ 9 2)) (by decide) (ce_9 _ _ _ _ _ _) rfl inz_X0 2 (by decide) zq1_116 rfl dX0_listWords_76 ?_
    refine gz_istore_n K [(2, .int (gz_i σ 9 2)), (0, .ref (ad 9))] dX0_listWords_79 (by decide) rfl ?_
    refine gz_iconst K (v := (0 : Int32)) dX0_listWords_80 (by decide) ?_
    refine gz_istore_n K [(3, .int (0 : Int32)), (2, .int (gz_i σ 9 2)), (0, .ref (ad 9))] dX0_listWords_81 (by decide) rfl ?_
    refine gz_sub [2, 1, 0] rfl ?_
    have ll_82 : ∀ (n_82 : Nat) (σ : Dz) (y2 : Int32) (y3 : Int32) , L_X0_listWords_82 k1 post  n_82 σ y2 y3 → Gz p l e r_X0_listWords s m args below meth c D ad ty 5 0 0 (Ez below D ad ty nV0 (fun _ τ => post τ) (fun _ _ => False) args s 0 0) σ 82 [(0, .ref (ad 9)), (2, .int y2), (3, .int y3)] [] := by
      intro n_82; induction n_82 with
      | zero => intro σ y2 y3 hp; exact False.elim hp
      | succ n_82 ih_82 =>
        intro σ y2 y3 hp
        have hp : B_X0_listWords_82 k1 post  (L_X0_listWords_82 k1 post  n_82) σ y2 y3 := hp
        unfold B_X0_listWords_82 at hp
        have bb_142 : ∀ (σ : Dz) (y2 : Int32) (y3 : Int32) , B_X0_listWords_142 k1 post (L_X0_listWords_82 k1 post  n_82) σ y2 y3 → Gz p l e r_X0_listWords s m args below meth c D ad ty 5 0 0 (Ez below D ad ty nV0 (fun _ τ => post τ) (fun _ _ => False) args s 0 0) σ 142 [(0, .ref (ad 9)), (2, .int y2), (3, .int y3)] [] := by
          intro σ y2 y3 hp
          unfold B_X0_listWords_142 at hp
          refine gz_iinc K (v := (y3 + 1)) [(3, .int (y3 + 1)), (0, .ref (ad 9)), (2, .int y2)] dX0_listWords_142 2 rfl (by first | rfl | decide) (by decide) rfl ?_
          refine gz_goto K 82 dX0_listWords_145 (by decide) ?_
          refine gz_sub [1, 2, 0] rfl ?_
          exact ih_82 σ y2 (y3 + 1)  hp
        refine gz_iload_n K dX0_listWords_82 2 rfl ?_
        refine gz_aload_n K dX0_listWords_83 0 rfl ?_
        refine gz_get K (v := .int (gz_i σ 9 2)) (by decide) (ce_9 _ _ _ _ _ _) rfl inz_X0 2 (by decide) zq1_116 rfl dX0_listWords_84 ?_
        refine gz_icmp_ge K 148 dX0_listWords_87 (by decide) (fun h => ?_) (fun h => ?_)
        · have hp := hp.1 h
          exact gz_vret K hr hp dX0_listWords_148 (Nat.le_of_ble_eq_true rfl) (Nat.le_of_ble_eq_true rfl)
        · have hp := hp.2 h
          refine gz_iconst K (v := (0 : Int32)) dX0_listWords_90 (by decide) ?_
          refine gz_istore K [(4, .int (0 : Int32)), (0, .ref (ad 9)), (2, .int y2), (3, .int y3)] dX0_listWords_91 (by decide) rfl ?_
          refine gz_sub [1, 2, 3, 0] rfl ?_
          have ll_93 : ∀ (n_93 : Nat) (σ : Dz) (y2 : Int32) (y3 : Int32) (y4 : Int32) , L_X0_listWords_93 k1 post (L_X0_listWords_82 k1 post  n_82) n_93 σ y2 y3 y4 → Gz p l e r_X0_listWords s m args below meth c D ad ty 5 0 0 (Ez below D ad ty nV0 (fun _ τ => post τ) (fun _ _ => False) args s 0 0) σ 93 [(0, .ref (ad 9)), (2, .int y2), (3, .int y3), (4, .int y4)] [] := by
            intro n_93; induction n_93 with
            | zero => intro σ y2 y3 y4 hp; exact False.elim hp
            | succ n_93 ih_93 =>
              intro σ y2 y3 y4 hp
              have hp : B_X0_listWords_93 k1 post (L_X0_listWords_82 k1 post  n_82) (L_X0_listWords_93 k1 post (L_X0_listWords_82 k1 post  n_82) n_93) σ y2 y3 y4 := hp
              unfold B_X0_listWords_93 at hp
              refine gz_iload K dX0_listWords_93 3 rfl ?_
              refine gz_aload_n K dX0_listWords_95 0 rfl ?_
              refine gz_get K (v := .int (gz_i σ 9 2)) (by decide) (ce_9 _ _ _ _ _ _) rfl inz_X0 2 (by decide) zq1_116 rfl dX0_listWords_96 ?_
              refine gz_icmp_ge K 142 dX0_listWords_99 (by decide) (fun h => ?_) (fun h => ?_)
              · have hp := hp.1 h
                refine gz_sub [0, 1, 2] rfl ?_
                exact bb_142 σ y2 y3  hp
              · have hp := hp.2 h
                refine gz_iload_n K dX0_listWords_102 1 rfl ?_
                refine gz_aload_n K dX0_listWords_103 0 rfl ?_
                refine gz_get K (v := .ref (ad 11)) (by decide) (ce_9 _ _ _ _ _ _) rfl inz_X0 1 (by decide) zq1_115 rfl dX0_listWords_104 ?_
                refine gz_alen K (v := (110 : Int32)) 3 rfl (by decide) (ce_11 _ _ _ _ _ _) (by decide) dX0_listWords_107 ?_
                refine gz_icmp_ge K 142 dX0_listWords_108 (by decide) (fun h => ?_) (fun h => ?_)
                · have hp := hp.1 h
                  refine gz_sub [0, 1, 2] rfl ?_
                  exact bb_142 σ y2 y3  hp
                · have hp := hp.2 h
                  refine gz_aload_n K dX0_listWords_111 0 rfl ?_
                  refine gz_get K (v := .ref (ad 11)) (by decide) (ce_9 _ _ _ _ _ _) rfl inz_X0 1 (by decide) zq1_115 rfl dX0_listWords_112 ?_
                  refine gz_iload_n K dX0_listWords_115 1 rfl ?_
                  refine gz_aload_n K dX0_listWords_116 0 rfl ?_
                  refine gz_get K (v := .ref (ad 11)) (by decide) (ce_9 _ _ _ _ _ _) rfl inz_X0 1 (by decide) zq1_115 rfl dX0_listWords_117 ?_
                  refine gz_iload_n K dX0_listWords_120 2 rfl ?_
                  obtain ⟨h, hp⟩ := hp
                  refine gz_iald K (by decide) (ce_11 _ _ _ _ _ _) h dX0_listWords_121 ?_
                  refine gz_aload_n K dX0_listWords_122 0 rfl ?_
                  refine gz_get K (v := .ref (ad 11)) (by decide) (ce_9 _ _ _ _ _ _) rfl inz_X0 1 (by decide) zq1_115 rfl dX0_listWords_123 ?_
                  refine gz_iload K dX0_listWords_126 3 rfl ?_
                  obtain ⟨h, hp⟩ := hp
                  refine gz_iald K (by decide) (ce_11 _ _ _ _ _ _) h dX0_listWords_128 ?_
                  refine gz_callS K hex (c_X3_then K.2.2.2.2.2 K.2.2.1 hp) cf_X3_then zq4_187 dX0_listWords_129 rfl rfl (Nat.le_of_ble_eq_true rfl) ⟨Nat.le_of_ble_eq_true rfl, Nat.le_of_ble_eq_true rfl⟩ ⟨Nat.le_of_ble_eq_true rfl, Nat.le_of_ble_eq_true rfl⟩ (Nat.le_of_ble_eq_true rfl) (Nat.le_of_ble_eq_true rfl) (fun _ _ h => h.elim) (fun r129 τ hp => ?_)
                  obtain ⟨rfl, hp⟩ := hp
                  refine gz_norm (st' := [.int r129, .int y2, .ref (ad 11)]) (cells' := 0) (slots' := 0) rfl rfl rfl ?_
                  obtain ⟨h, hp⟩ := hp
                  refine gz_iast K (x := r129) (by decide) (ce_11 ad ty) h dX0_listWords_132 ?_
                  refine gz_iinc K (v := (y2 + 1)) [(2, .int (y2 + 1)), (0, .ref (ad 9)), (3, .int y3), (4, .int y4)] dX0_listWords_133 1 rfl (by first | rfl | decide) (by decide) rfl ?_
                  refine gz_iinc K (v := (y4 + 1)) [(4, .int (y4 + 1)), (2, .int (y2 + 1)), (0, .ref (ad 9)), (3, .int y3)] dX0_listWords_136 3 rfl (by first | rfl | decide) (by decide) rfl ?_
                  refine gz_goto K 93 dX0_listWords_139 (by decide) ?_
                  refine gz_sub [2, 1, 3, 0] rfl ?_
                  exact ih_93 (sz_i σ 11 (y2).toNatClampNeg r129) (y2 + 1) y3 (y4 + 1)  hp
          obtain ⟨n, hp⟩ := hp
          exact ll_93 n σ y2 y3 (0 : Int32)  hp
    obtain ⟨n, hp⟩ := hp
    exact ll_82 n σ (gz_i σ 9 2) (0 : Int32)  hp
  show Gz p l e r_X0_listWords s m args below meth c D ad ty 5 0 0 (Ez below D ad ty nV0 (fun _ τ => post τ) (fun _ _ => False) args s 0 0) σ 0 [(0, .ref (ad 9)), (1, .ref (ad k1))] []
  refine gz_aload_n K dX0_listWords_0 0 rfl ?_
  refine gz_iconst K (v := (0 : Int32)) dX0_listWords_1 (by decide) ?_
  refine gz_put K (x := (0 : Int32)) (by decide) (ce_9 _ _ _ _ _ _) rfl inz_X0 tyX0 tyX0_ok nmX0 2 (by decide) zq1_116 rfl (tyX0_ok _ (by decide)) rfl rfl (Nat.le_of_ble_eq_true rfl) peX0_2 dX0_listWords_2 ?_
  refine gz_iconst K (v := (0 : Int32)) dX0_listWords_5 (by decide) ?_
  refine gz_istore_n K [(2, .int (0 : Int32)), (0, .ref (ad 9)), (1, .ref (ad k1))] dX0_listWords_6 (by decide) rfl ?_
  refine gz_sub [1, 2, 0] rfl ?_
  have ll_7 : ∀ (n_7 : Nat) (σ : Dz) (y2 : Int32) , L_X0_listWords_7 k1 post  n_7 σ y2 → Gz p l e r_X0_listWords s m args below meth c D ad ty 5 0 0 (Ez below D ad ty nV0 (fun _ τ => post τ) (fun _ _ => False) args s 0 0) σ 7 [(0, .ref (ad 9)), (1, .ref (ad k1)), (2, .int y2)] [] := by
    intro n_7; induction n_7 with
    | zero => intro σ y2 hp; exact False.elim hp
    | succ n_7 ih_7 =>
      intro σ y2 hp
      have hp : B_X0_listWords_7 k1 post  (L_X0_listWords_7 k1 post  n_7) σ y2 := hp
      unfold B_X0_listWords_7 at hp
      have bb_69 : ∀ (σ : Dz) (y2 : Int32) , B_X0_listWords_69 k1 post (L_X0_listWords_7 k1 post  n_7) σ y2 → Gz p l e r_X0_listWords s m args below meth c D ad ty 5 0 0 (Ez below D ad ty nV0 (fun _ τ => post τ) (fun _ _ => False) args s 0 0) σ 69 [(0, .ref (ad 9)), (1, .ref (ad k1)), (2, .int y2)] [] := by
        intro σ y2 hp
        unfold B_X0_listWords_69 at hp
        refine gz_iinc K (v := (y2 + 1)) [(2, .int (y2 + 1)), (0, .ref (ad 9)), (1, .ref (ad k1))] dX0_listWords_69 2 rfl (by first | rfl | decide) (by decide) rfl ?_
        refine gz_goto K 7 dX0_listWords_72 (by decide) ?_
        refine gz_sub [1, 2, 0] rfl ?_
        exact ih_7 σ (y2 + 1)  hp
      refine gz_iload_n K dX0_listWords_7 2 rfl ?_
      refine gz_bipush K (v := (10 : Int32)) dX0_listWords_8 (by decide) ?_
      refine gz_icmp_ge K 75 dX0_listWords_10 (by decide) (fun h => ?_) (fun h => ?_)
      · have hp := hp.1 h
        refine gz_sub [0] rfl ?_
        exact bb_75 σ  hp
      · have hp := hp.2 h
        refine gz_aload_n K dX0_listWords_13 0 rfl ?_
        refine gz_get K (v := .int (gz_i σ 9 2)) (by decide) (ce_9 _ _ _ _ _ _) rfl inz_X0 2 (by decide) zq1_116 rfl dX0_listWords_14 ?_
        refine gz_aload_n K dX0_listWords_17 0 rfl ?_
        refine gz_get K (v := .ref (ad 10)) (by decide) (ce_9 _ _ _ _ _ _) rfl inz_X0 0 (by decide) zq1_114 rfl dX0_listWords_18 ?_
        refine gz_alen K (v := (10 : Int32)) 3 rfl (by decide) (ce_10 _ _ _ _ _ _) (by decide) dX0_listWords_21 ?_
        refine gz_icmp_ge K 75 dX0_listWords_22 (by decide) (fun h => ?_) (fun h => ?_)
        · have hp := hp.1 h
          refine gz_sub [0] rfl ?_
          exact bb_75 σ  hp
        · have hp := hp.2 h
          refine gz_aload_n K dX0_listWords_25 1 rfl ?_
          refine gz_iload_n K dX0_listWords_26 2 rfl ?_
          refine gz_iconst K (v := (2 : Int32)) dX0_listWords_27 (by decide) ?_
          refine gz_idiv K dX0_listWords_28 (by decide) ?_
          refine gz_callV K hex (c_X4_isDefined K.2.2.2.2.2 K.2.2.1 h1 hp) cf_X4_isDefined zq4_185 (ceS h1).1 ((ceS h1).2 _ _ _ _ _ _) rfl dX0_listWords_29 rfl rfl (Nat.le_of_ble_eq_true rfl) ⟨Nat.le_of_ble_eq_true rfl, Nat.le_of_ble_eq_true rfl⟩ ⟨Nat.le_of_ble_eq_true rfl, Nat.le_of_ble_eq_true rfl⟩ (Nat.le_of_ble_eq_true rfl) (Nat.le_of_ble_eq_true rfl) (fun _ _ h => h.elim) (fun r29 τ hp => ?_)
          obtain ⟨rfl, hp⟩ := hp
          refine gz_norm (st' := [.int r29]) (cells' := 0) (slots' := 0) rfl rfl rfl ?_
          refine gz_if_eq K 69 dX0_listWords_32 (by decide) (fun h => ?_) (fun h => ?_)
          · have hp := hp.1 h
            exact bb_69 σ y2  hp
          · have hp := hp.2 h
            refine gz_aload_n K dX0_listWords_35 0 rfl ?_
            refine gz_get K (v := .ref (ad 10)) (by decide) (ce_9 _ _ _ _ _ _) rfl inz_X0 0 (by decide) zq1_114 rfl dX0_listWords_36 ?_
            refine gz_aload_n K dX0_listWords_39 0 rfl ?_
            refine gz_get K (v := .int (gz_i σ 9 2)) (by decide) (ce_9 _ _ _ _ _ _) rfl inz_X0 2 (by decide) zq1_116 rfl dX0_listWords_40 ?_
            refine gz_iload_n K dX0_listWords_43 2 rfl ?_
            obtain ⟨h, hp⟩ := hp
            refine gz_iast K (x := y2) (by decide) (ce_10 ad ty) h dX0_listWords_44 ?_
            refine gz_aload_n K dX0_listWords_45 0 rfl ?_
            refine gz_get K (v := .ref (ad 11)) (by decide) (ce_9 _ _ _ _ _ _) rfl inz_X0 1 (by decide) zq1_115 rfl dX0_listWords_46 ?_
            refine gz_aload_n K dX0_listWords_49 0 rfl ?_
            refine gz_get K (v := .int (gz_i (sz_i σ 10 ((gz_i σ 9 2)).toNatClampNeg y2) 9 2)) (by decide) (ce_9 _ _ _ _ _ _) rfl inz_X0 2 (by decide) zq1_116 rfl dX0_listWords_50 ?_
            refine gz_aload_n K dX0_listWords_53 1 rfl ?_
            refine gz_iload_n K dX0_listWords_54 2 rfl ?_
            refine gz_callV K hex (c_X4_effectOfLetter K.2.2.2.2.2 K.2.2.1 h1 hp) cf_X4_effectOfLetter zq4_186 (ceS h1).1 ((ceS h1).2 _ _ _ _ _ _) rfl dX0_listWords_55 rfl rfl (Nat.le_of_ble_eq_true rfl) ⟨Nat.le_of_ble_eq_true rfl, Nat.le_of_ble_eq_true rfl⟩ ⟨Nat.le_of_ble_eq_true rfl, Nat.le_of_ble_eq_true rfl⟩ (Nat.le_of_ble_eq_true rfl) (Nat.le_of_ble_eq_true rfl) (fun _ _ h => h.elim) (fun r55 τ hp => ?_)
            obtain ⟨rfl, hp⟩ := hp
            refine gz_norm (st' := [.int r55, .int (gz_i (sz_i σ 10 ((gz_i σ 9 2)).toNatClampNeg y2) 9 2), .ref (ad 11)]) (cells' := 0) (slots' := 0) rfl rfl rfl ?_
            obtain ⟨h, hp⟩ := hp
            refine gz_iast K (x := r55) (by decide) (ce_11 ad ty) h dX0_listWords_58 ?_
            refine gz_aload_n K dX0_listWords_59 0 rfl ?_
            refine gz_dup K dX0_listWords_60 rfl ?_
            refine gz_get K (v := .int (gz_i (sz_i (sz_i σ 10 ((gz_i σ 9 2)).toNatClampNeg y2) 11 ((gz_i (sz_i σ 10 ((gz_i σ 9 2)).toNatClampNeg y2) 9 2)).toNatClampNeg r55) 9 2)) (by decide) (ce_9 _ _ _ _ _ _) rfl inz_X0 2 (by decide) zq1_116 rfl dX0_listWords_61 ?_
            refine gz_iconst K (v := (1 : Int32)) dX0_listWords_64 (by decide) ?_
            refine gz_iadd K dX0_listWords_65 ?_
            refine gz_put K (x := ((gz_i (sz_i (sz_i σ 10 ((gz_i σ 9 2)).toNatClampNeg y2) 11 ((gz_i (sz_i σ 10 ((gz_i σ 9 2)).toNatClampNeg y2) 9 2)).toNatClampNeg r55) 9 2) + (1 : Int32))) (by decide) (ce_9 _ _ _ _ _ _) rfl inz_X0 tyX0 tyX0_ok nmX0 2 (by decide) zq1_116 rfl (tyX0_ok _ (by decide)) rfl rfl (Nat.le_of_ble_eq_true rfl) peX0_2 dX0_listWords_66 ?_
            exact bb_69 (sz_i (sz_i (sz_i σ 10 ((gz_i σ 9 2)).toNatClampNeg y2) 11 ((gz_i (sz_i σ 10 ((gz_i σ 9 2)).toNatClampNeg y2) 9 2)).toNatClampNeg r55) 9 2 ((gz_i (sz_i (sz_i σ 10 ((gz_i σ 9 2)).toNatClampNeg y2) 11 ((gz_i (sz_i σ 10 ((gz_i σ 9 2)).toNatClampNeg y2) 9 2)).toNatClampNeg r55) 9 2) + (1 : Int32))) y2  hp
  obtain ⟨n, hp⟩ := hp
  exact ll_7 n (sz_i σ 9 2 (0 : Int32)) (0 : Int32)  hp
set_option maxRecDepth 100000 in
set_option maxHeartbeats 4000000 in
theorem c_X0_startOf {l : Launch} {D : va_G} {ad : Nat → Nat} {ty : Nat → ClassId} (hl : l.stackTraces = false) (hj : ∀ i j, i < 68 → j < 68 → ad i = ad j → i = j) {σ : Dz} {x1 : Int32} {post : Int32 → Prop} (hp : P_X0_startOf σ x1 post) : Mz l D ad ty yX0_startOf cX0_startOf 2 (some .int) r_X0_startOf nI0 σ [.ref (ad 9), .int x1] (fun r τ => σ = τ ∧ post r) (fun _ _ => False) := by
  refine mz_of (by decide) hl hj (Nat.le_of_ble_eq_true rfl) ?_
  intro p e s m args below meth c K hex hr
  unfold P_X0_startOf at hp
  show Gz p l e r_X0_startOf s m args below meth c D ad ty 2 0 0 (Ez below D ad ty nI0 (fun r τ => σ = τ ∧ post r) (fun _ _ => False) args s 0 0) σ 0 [(0, .ref (ad 9)), (1, .int x1)] []
  refine gz_iload_n K dX0_startOf_0 1 rfl ?_
  refine gz_iconst K (v := (1 : Int32)) dX0_startOf_1 (by decide) ?_
  refine gz_icmp_ne K 7 dX0_startOf_2 (by decide) (fun h => ?_) (fun h => ?_)
  · have hp := hp.1 h
    refine gz_iload_n K dX0_startOf_7 1 rfl ?_
    refine gz_iconst K (v := (2 : Int32)) dX0_startOf_8 (by decide) ?_
    refine gz_icmp_ne K 19 dX0_startOf_9 (by decide) (fun h => ?_) (fun h => ?_)
    · have hp := hp.1 h
      refine gz_aload_n K dX0_startOf_19 0 rfl ?_
      refine gz_get K (v := .int (gz_i σ 9 2)) (by decide) (ce_9 _ _ _ _ _ _) rfl inz_X0 2 (by decide) zq1_116 rfl dX0_startOf_20 ?_
      refine gz_aload_n K dX0_startOf_23 0 rfl ?_
      refine gz_get K (v := .int (gz_i σ 9 2)) (by decide) (ce_9 _ _ _ _ _ _) rfl inz_X0 2 (by decide) zq1_116 rfl dX0_startOf_24 ?_
      refine gz_aload_n K dX0_startOf_27 0 rfl ?_
      refine gz_get K (v := .int (gz_i σ 9 2)) (by decide) (ce_9 _ _ _ _ _ _) rfl inz_X0 2 (by decide) zq1_116 rfl dX0_startOf_28 ?_
      refine gz_imul K dX0_startOf_31 ?_
      refine gz_iadd K dX0_startOf_32 ?_
      exact gz_iret K hr ⟨rfl, hp⟩ dX0_startOf_33 (Nat.le_of_ble_eq_true rfl) (Nat.le_of_ble_eq_true rfl)
    · have hp := hp.2 h
      refine gz_aload_n K dX0_startOf_12 0 rfl ?_
      refine gz_get K (v := .int (gz_i σ 9 2)) (by decide) (ce_9 _ _ _ _ _ _) rfl inz_X0 2 (by decide) zq1_116 rfl dX0_startOf_13 ?_
      refine gz_goto K 33 dX0_startOf_16 (by decide) ?_
      exact gz_iret K hr ⟨rfl, hp⟩ dX0_startOf_33 (Nat.le_of_ble_eq_true rfl) (Nat.le_of_ble_eq_true rfl)
  · have hp := hp.2 h
    refine gz_iconst K (v := (0 : Int32)) dX0_startOf_5 (by decide) ?_
    exact gz_iret K hr ⟨rfl, hp⟩ dX0_startOf_6 (Nat.le_of_ble_eq_true rfl) (Nat.le_of_ble_eq_true rfl)
set_option maxRecDepth 100000 in
set_option maxHeartbeats 4000000 in
theorem c_X0_movedBy {l : Launch} {D : va_G} {ad : Nat → Nat} {ty : Nat → ClassId} (hl : l.stackTraces = false) (hj : ∀ i j, i < 68 → j < 68 → ad i = ad j → i = j) {σ : Dz} {x0 : Int32} {x1 : Int32} {post : Int32 → Prop} (hp : P_X0_movedBy x0 x1 post) : Mz l D ad ty yX0_movedBy cX0_movedBy 6 (some .int) r_X0_movedBy nI0 σ [.int x0, .int x1] (fun r τ => σ = τ ∧ post r) (fun _ _ => False) := by
  refine mz_of (by decide) hl hj (Nat.le_of_ble_eq_true rfl) ?_
  intro p e s m args below meth c K hex hr
  unfold P_X0_movedBy at hp
  show Gz p l e r_X0_movedBy s m args below meth c D ad ty 6 0 0 (Ez below D ad ty nI0 (fun r τ => σ = τ ∧ post r) (fun _ _ => False) args s 0 0) σ 0 [(0, .int x0), (1, .int x1)] []
  refine gz_iconst K (v := (0 : Int32)) dX0_movedBy_0 (by decide) ?_
  refine gz_istore_n K [(2, .int (0 : Int32)), (0, .int x0), (1, .int x1)] dX0_movedBy_1 (by decide) rfl ?_
  refine gz_iconst K (v := (0 : Int32)) dX0_movedBy_2 (by decide) ?_
  refine gz_istore_n K [(3, .int (0 : Int32)), (2, .int (0 : Int32)), (0, .int x0), (1, .int x1)] dX0_movedBy_3 (by decide) rfl ?_
  refine gz_sub [2, 3, 1, 0] rfl ?_
  have ll_4 : ∀ (n_4 : Nat) (y0 : Int32) (y1 : Int32) (y2 : Int32) (y3 : Int32) , L_X0_movedBy_4 post  n_4 y0 y1 y2 y3 → Gz p l e r_X0_movedBy s m args below meth c D ad ty 6 0 0 (Ez below D ad ty nI0 (fun r τ => σ = τ ∧ post r) (fun _ _ => False) args s 0 0) σ 4 [(0, .int y0), (1, .int y1), (2, .int y2), (3, .int y3)] [] := by
    intro n_4; induction n_4 with
    | zero => intro y0 y1 y2 y3 hp; exact False.elim hp
    | succ n_4 ih_4 =>
      intro y0 y1 y2 y3 hp
      have hp : B_X0_movedBy_4 post  (L_X0_movedBy_4 post  n_4) y0 y1 y2 y3 := hp
      unfold B_X0_movedBy_4 at hp
      have bb_42 : ∀ (y0 : Int32) (y1 : Int32) (y2 : Int32) (y3 : Int32) , B_X0_movedBy_42 post (L_X0_movedBy_4 post  n_4) y0 y1 y2 y3 → Gz p l e r_X0_movedBy s m args below meth c D ad ty 6 0 0 (Ez below D ad ty nI0 (fun r τ => σ = τ ∧ post r) (fun _ _ => False) args s 0 0) σ 42 [(0, .int y0), (1, .int y1), (2, .int y2), (3, .int y3)] [] := by
        intro y0 y1 y2 y3 hp
        unfold B_X0_movedBy_42 at hp
        refine gz_iinc K (v := (y3 + 1)) [(3, .int (y3 + 1)), (0, .int y0), (1, .int y1), (2, .int y2)] dX0_movedBy_42 3 rfl (by first | rfl | decide) (by decide) rfl ?_
        refine gz_goto K 4 dX0_movedBy_45 (by decide) ?_
        refine gz_sub [1, 2, 3, 0] rfl ?_
        exact ih_4 y0 y1 y2 (y3 + 1)  hp
      refine gz_iload_n K dX0_movedBy_4 3 rfl ?_
      refine gz_bipush K (v := (7 : Int32)) dX0_movedBy_5 (by decide) ?_
      refine gz_icmp_ge K 48 dX0_movedBy_7 (by decide) (fun h => ?_) (fun h => ?_)
      · have hp := hp.1 h
        refine gz_iload_n K dX0_movedBy_48 2 rfl ?_
        exact gz_iret K hr ⟨rfl, hp⟩ dX0_movedBy_49 (Nat.le_of_ble_eq_true rfl) (Nat.le_of_ble_eq_true rfl)
      · have hp := hp.2 h
        refine gz_iload_n K dX0_movedBy_10 1 rfl ?_
        refine gz_iload_n K dX0_movedBy_11 0 rfl ?_
        refine gz_iload_n K dX0_movedBy_12 3 rfl ?_
        refine gz_callS K hex (c_X3_imageOf K.2.2.2.2.2 K.2.2.1 hp) cf_X3_imageOf zq4_199 dX0_movedBy_13 rfl rfl (Nat.le_of_ble_eq_true rfl) ⟨Nat.le_of_ble_eq_true rfl, Nat.le_of_ble_eq_true rfl⟩ ⟨Nat.le_of_ble_eq_true rfl, Nat.le_of_ble_eq_true rfl⟩ (Nat.le_of_ble_eq_true rfl) (Nat.le_of_ble_eq_true rfl) (fun _ _ h => h.elim) (fun r13 τ hp => ?_)
        obtain ⟨rfl, hp⟩ := hp
        refine gz_norm (st' := [.int r13, .int y1]) (cells' := 0) (slots' := 0) rfl rfl rfl ?_
        refine gz_callS K hex (c_X3_imageOf K.2.2.2.2.2 K.2.2.1 hp) cf_X3_imageOf zq4_199 dX0_movedBy_16 rfl rfl (Nat.le_of_ble_eq_true rfl) ⟨Nat.le_of_ble_eq_true rfl, Nat.le_of_ble_eq_true rfl⟩ ⟨Nat.le_of_ble_eq_true rfl, Nat.le_of_ble_eq_true rfl⟩ (Nat.le_of_ble_eq_true rfl) (Nat.le_of_ble_eq_true rfl) (fun _ _ h => h.elim) (fun r16 τ hp => ?_)
        obtain ⟨rfl, hp⟩ := hp
        refine gz_norm (st' := [.int r16]) (cells' := 0) (slots' := 0) rfl rfl rfl ?_
        refine gz_istore K [(4, .int r16), (0, .int y0), (1, .int y1), (2, .int y2), (3, .int y3)] dX0_movedBy_19 (by decide) rfl ?_
        refine gz_iload_n K dX0_movedBy_21 1 rfl ?_
        refine gz_iload_n K dX0_movedBy_22 2 rfl ?_
        refine gz_iload_n K dX0_movedBy_23 4 rfl ?_
        refine gz_callS K hex (c_X3_imageOf K.2.2.2.2.2 K.2.2.1 hp) cf_X3_imageOf zq4_199 dX0_movedBy_24 rfl rfl (Nat.le_of_ble_eq_true rfl) ⟨Nat.le_of_ble_eq_true rfl, Nat.le_of_ble_eq_true rfl⟩ ⟨Nat.le_of_ble_eq_true rfl, Nat.le_of_ble_eq_true rfl⟩ (Nat.le_of_ble_eq_true rfl) (Nat.le_of_ble_eq_true rfl) (fun _ _ h => h.elim) (fun r24 τ hp => ?_)
        obtain ⟨rfl, hp⟩ := hp
        refine gz_norm (st' := [.int r24, .int y0]) (cells' := 0) (slots' := 0) rfl rfl rfl ?_
        refine gz_callS K hex (c_X3_imageOf K.2.2.2.2.2 K.2.2.1 hp) cf_X3_imageOf zq4_199 dX0_movedBy_27 rfl rfl (Nat.le_of_ble_eq_true rfl) ⟨Nat.le_of_ble_eq_true rfl, Nat.le_of_ble_eq_true rfl⟩ ⟨Nat.le_of_ble_eq_true rfl, Nat.le_of_ble_eq_true rfl⟩ (Nat.le_of_ble_eq_true rfl) (Nat.le_of_ble_eq_true rfl) (fun _ _ h => h.elim) (fun r27 τ hp => ?_)
        obtain ⟨rfl, hp⟩ := hp
        refine gz_norm (st' := [.int r27]) (cells' := 0) (slots' := 0) rfl rfl rfl ?_
        refine gz_istore K [(5, .int r27), (4, .int r16), (0, .int y0), (1, .int y1), (2, .int y2), (3, .int y3)] dX0_movedBy_30 (by decide) rfl ?_
        refine gz_iload K dX0_movedBy_32 1 rfl ?_
        refine gz_iload K dX0_movedBy_34 0 rfl ?_
        refine gz_icmp_eq K 42 dX0_movedBy_36 (by decide) (fun h => ?_) (fun h => ?_)
        · have hp := hp.1 h
          refine gz_sub [2, 3, 4, 5] rfl ?_
          exact bb_42 y0 y1 y2 y3  hp
        · have hp := hp.2 h
          refine gz_iinc K (v := (y2 + 1)) [(2, .int (y2 + 1)), (5, .int r27), (4, .int r16), (0, .int y0), (1, .int y1), (3, .int y3)] dX0_movedBy_39 4 rfl (by first | rfl | decide) (by decide) rfl ?_
          refine gz_sub [3, 4, 0, 5] rfl ?_
          exact bb_42 y0 y1 (y2 + 1) y3  hp
  obtain ⟨n, hp⟩ := hp
  exact ll_4 n x0 x1 (0 : Int32) (0 : Int32)  hp
set_option maxRecDepth 100000 in
set_option maxHeartbeats 4000000 in
theorem c_X0_findAmong {l : Launch} {D : va_G} {ad : Nat → Nat} {ty : Nat → ClassId} (hl : l.stackTraces = false) (hj : ∀ i j, i < 68 → j < 68 → ad i = ad j → i = j) {σ : Dz} {x1 : Int32} {x2 : Int32} {x3 : Int32} {post : Int32 → Dz → Prop} (hp : P_X0_findAmong σ x1 x2 x3 post) : Mz l D ad ty yX0_findAmong cX0_findAmong 6 (some .boolean) r_X0_findAmong nI0 σ [.ref (ad 9), .int x1, .int x2, .int x3] post (fun _ _ => False) := by
  refine mz_of (by decide) hl hj (Nat.le_of_ble_eq_true rfl) ?_
  intro p e s m args below meth c K hex hr
  unfold P_X0_findAmong at hp
  show Gz p l e r_X0_findAmong s m args below meth c D ad ty 6 0 0 (Ez below D ad ty nI0 post (fun _ _ => False) args s 0 0) σ 0 [(0, .ref (ad 9)), (1, .int x1), (2, .int x2), (3, .int x3)] []
  refine gz_aload_n K dX0_findAmong_0 0 rfl ?_
  refine gz_iload_n K dX0_findAmong_1 1 rfl ?_
  refine gz_callV K hex (c_X0_startOf K.2.2.2.2.2 K.2.2.1 hp) cf_X0_startOf zq4_192 (by decide) (ce_9 _ _ _ _ _ _) rfl dX0_findAmong_2 rfl rfl (Nat.le_of_ble_eq_true rfl) ⟨Nat.le_of_ble_eq_true rfl, Nat.le_of_ble_eq_true rfl⟩ ⟨Nat.le_of_ble_eq_true rfl, Nat.le_of_ble_eq_true rfl⟩ (Nat.le_of_ble_eq_true rfl) (Nat.le_of_ble_eq_true rfl) (fun _ _ h => h.elim) (fun r2 τ hp => ?_)
  obtain ⟨rfl, hp⟩ := hp
  refine gz_norm (st' := [.int r2]) (cells' := 0) (slots' := 0) rfl rfl rfl ?_
  refine gz_istore K [(4, .int r2), (0, .ref (ad 9)), (1, .int x1), (2, .int x2), (3, .int x3)] dX0_findAmong_5 (by decide) rfl ?_
  refine gz_sub [1, 2, 3, 4, 0] rfl ?_
  have ll_7 : ∀ (n_7 : Nat) (σ : Dz) (y1 : Int32) (y2 : Int32) (y3 : Int32) (y4 : Int32) , L_X0_findAmong_7 post  n_7 σ y1 y2 y3 y4 → Gz p l e r_X0_findAmong s m args below meth c D ad ty 6 0 0 (Ez below D ad ty nI0 post (fun _ _ => False) args s 0 0) σ 7 [(0, .ref (ad 9)), (1, .int y1), (2, .int y2), (3, .int y3), (4, .int y4)] [] := by
    intro n_7; induction n_7 with
    | zero => intro σ y1 y2 y3 y4 hp; exact False.elim hp
    | succ n_7 ih_7 =>
      intro σ y1 y2 y3 y4 hp
      have hp : B_X0_findAmong_7 post  (L_X0_findAmong_7 post  n_7) σ y1 y2 y3 y4 := hp
      unfold B_X0_findAmong_7 at hp
      refine gz_iload K dX0_findAmong_7 4 rfl ?_
      refine gz_aload_n K dX0_findAmong_9 0 rfl ?_
      refine gz_iload_n K dX0_findAmong_10 1 rfl ?_
      refine gz_iconst K (v := (1 : Int32)) dX0_findAmong_11 (by decide) ?_
      refine gz_iadd K dX0_findAmong_12 ?_
      refine gz_callV K hex (c_X0_startOf K.2.2.2.2.2 K.2.2.1 hp) cf_X0_startOf zq4_192 (by decide) (ce_9 _ _ _ _ _ _) rfl dX0_findAmong_13 rfl rfl (Nat.le_of_ble_eq_true rfl) ⟨Nat.le_of_ble_eq_true rfl, Nat.le_of_ble_eq_true rfl⟩ ⟨Nat.le_of_ble_eq_true rfl, Nat.le_of_ble_eq_true rfl⟩ (Nat.le_of_ble_eq_true rfl) (Nat.le_of_ble_eq_true rfl) (fun _ _ h => h.elim) (fun r13 τ hp => ?_)
      obtain ⟨rfl, hp⟩ := hp
      refine gz_norm (st' := [.int r13, .int y4]) (cells' := 0) (slots' := 0) rfl rfl rfl ?_
      refine gz_icmp_ge K 85 dX0_findAmong_16 (by decide) (fun h => ?_) (fun h => ?_)
      · have hp := hp.1 h
        refine gz_iconst K (v := (0 : Int32)) dX0_findAmong_85 (by decide) ?_
        exact gz_zret K hr (by decide) hp dX0_findAmong_86 (Nat.le_of_ble_eq_true rfl) (Nat.le_of_ble_eq_true rfl)
      · have hp := hp.2 h
        refine gz_aload_n K dX0_findAmong_19 0 rfl ?_
        refine gz_iload_n K dX0_findAmong_20 2 rfl ?_
        refine gz_callV K hex (c_X0_startOf K.2.2.2.2.2 K.2.2.1 hp) cf_X0_startOf zq4_192 (by decide) (ce_9 _ _ _ _ _ _) rfl dX0_findAmong_21 rfl rfl (Nat.le_of_ble_eq_true rfl) ⟨Nat.le_of_ble_eq_true rfl, Nat.le_of_ble_eq_true rfl⟩ ⟨Nat.le_of_ble_eq_true rfl, Nat.le_of_ble_eq_true rfl⟩ (Nat.le_of_ble_eq_true rfl) (Nat.le_of_ble_eq_true rfl) (fun _ _ h => h.elim) (fun r21 τ hp => ?_)
        obtain ⟨rfl, hp⟩ := hp
        refine gz_norm (st' := [.int r21]) (cells' := 0) (slots' := 0) rfl rfl rfl ?_
        refine gz_istore K [(5, .int r21), (0, .ref (ad 9)), (1, .int y1), (2, .int y2), (3, .int y3), (4, .int y4)] dX0_findAmong_24 (by decide) rfl ?_
        refine gz_sub [1, 2, 3, 4, 5, 0] rfl ?_
        have ll_26 : ∀ (n_26 : Nat) (σ : Dz) (y1 : Int32) (y2 : Int32) (y3 : Int32) (y4 : Int32) (y5 : Int32) , L_X0_findAmong_26 post (L_X0_findAmong_7 post  n_7) n_26 σ y1 y2 y3 y4 y5 → Gz p l e r_X0_findAmong s m args below meth c D ad ty 6 0 0 (Ez below D ad ty nI0 post (fun _ _ => False) args s 0 0) σ 26 [(0, .ref (ad 9)), (1, .int y1), (2, .int y2), (3, .int y3), (4, .int y4), (5, .int y5)] [] := by
          intro n_26; induction n_26 with
          | zero => intro σ y1 y2 y3 y4 y5 hp; exact False.elim hp
          | succ n_26 ih_26 =>
            intro σ y1 y2 y3 y4 y5 hp
            have hp : B_X0_findAmong_26 post (L_X0_findAmong_7 post  n_7) (L_X0_findAmong_26 post (L_X0_findAmong_7 post  n_7) n_26) σ y1 y2 y3 y4 y5 := hp
            unfold B_X0_findAmong_26 at hp
            refine gz_iload K dX0_findAmong_26 5 rfl ?_
            refine gz_aload_n K dX0_findAmong_28 0 rfl ?_
            refine gz_iload_n K dX0_findAmong_29 2 rfl ?_
            refine gz_iconst K (v := (1 : Int32)) dX0_findAmong_30 (by decide) ?_
            refine gz_iadd K dX0_findAmong_31 ?_
            refine gz_callV K hex (c_X0_startOf K.2.2.2.2.2 K.2.2.1 hp) cf_X0_startOf zq4_192 (by decide) (ce_9 _ _ _ _ _ _) rfl dX0_findAmong_32 rfl rfl (Nat.le_of_ble_eq_true rfl) ⟨Nat.le_of_ble_eq_true rfl, Nat.le_of_ble_eq_true rfl⟩ ⟨Nat.le_of_ble_eq_true rfl, Nat.le_of_ble_eq_true rfl⟩ (Nat.le_of_ble_eq_true rfl) (Nat.le_of_ble_eq_true rfl) (fun _ _ h => h.elim) (fun r32 τ hp => ?_)
            obtain ⟨rfl, hp⟩ := hp
            refine gz_norm (st' := [.int r32, .int y5]) (cells' := 0) (slots' := 0) rfl rfl rfl ?_
            refine gz_icmp_ge K 79 dX0_findAmong_35 (by decide) (fun h => ?_) (fun h => ?_)
            · have hp := hp.1 h
              refine gz_iinc K (v := (y4 + 1)) [(4, .int (y4 + 1)), (0, .ref (ad 9)), (1, .int y1), (2, .int y2), (3, .int y3), (5, .int y5)] dX0_findAmong_79 4 rfl (by first | rfl | decide) (by decide) rfl ?_
              refine gz_goto K 7 dX0_findAmong_82 (by decide) ?_
              refine gz_sub [1, 2, 3, 4, 0] rfl ?_
              exact ih_7 σ y1 y2 y3 (y4 + 1)  hp
            · have hp := hp.2 h
              refine gz_aload_n K dX0_findAmong_38 0 rfl ?_
              refine gz_get K (v := .ref (ad 11)) (by decide) (ce_9 _ _ _ _ _ _) rfl inz_X0 1 (by decide) zq1_115 rfl dX0_findAmong_39 ?_
              refine gz_iload K dX0_findAmong_42 4 rfl ?_
              obtain ⟨h, hp⟩ := hp
              refine gz_iald K (by decide) (ce_11 _ _ _ _ _ _) h dX0_findAmong_44 ?_
              refine gz_aload_n K dX0_findAmong_45 0 rfl ?_
              refine gz_get K (v := .ref (ad 11)) (by decide) (ce_9 _ _ _ _ _ _) rfl inz_X0 1 (by decide) zq1_115 rfl dX0_findAmong_46 ?_
              refine gz_iload K dX0_findAmong_49 5 rfl ?_
              obtain ⟨h, hp⟩ := hp
              refine gz_iald K (by decide) (ce_11 _ _ _ _ _ _) h dX0_findAmong_51 ?_
              refine gz_callS K hex (c_X0_movedBy K.2.2.2.2.2 K.2.2.1 hp) cf_X0_movedBy zq4_196 dX0_findAmong_52 rfl rfl (Nat.le_of_ble_eq_true rfl) ⟨Nat.le_of_ble_eq_true rfl, Nat.le_of_ble_eq_true rfl⟩ ⟨Nat.le_of_ble_eq_true rfl, Nat.le_of_ble_eq_true rfl⟩ (Nat.le_of_ble_eq_true rfl) (Nat.le_of_ble_eq_true rfl) (fun _ _ h => h.elim) (fun r52 τ hp => ?_)
              obtain ⟨rfl, hp⟩ := hp
              refine gz_norm (st' := [.int r52]) (cells' := 0) (slots' := 0) rfl rfl rfl ?_
              refine gz_iload_n K dX0_findAmong_55 3 rfl ?_
              refine gz_icmp_ne K 73 dX0_findAmong_56 (by decide) (fun h => ?_) (fun h => ?_)
              · have hp := hp.1 h
                refine gz_iinc K (v := (y5 + 1)) [(5, .int (y5 + 1)), (0, .ref (ad 9)), (1, .int y1), (2, .int y2), (3, .int y3), (4, .int y4)] dX0_findAmong_73 5 rfl (by first | rfl | decide) (by decide) rfl ?_
                refine gz_goto K 26 dX0_findAmong_76 (by decide) ?_
                refine gz_sub [1, 2, 3, 4, 5, 0] rfl ?_
                exact ih_26 σ y1 y2 y3 y4 (y5 + 1)  hp
              · have hp := hp.2 h
                refine gz_aload_n K dX0_findAmong_59 0 rfl ?_
                refine gz_iload K dX0_findAmong_60 4 rfl ?_
                refine gz_put K (x := y4) (by decide) (ce_9 _ _ _ _ _ _) rfl inz_X0 tyX0 tyX0_ok nmX0 3 (by decide) zq1_117 rfl (tyX0_ok _ (by decide)) rfl rfl (Nat.le_of_ble_eq_true rfl) peX0_3 dX0_findAmong_62 ?_
                refine gz_aload_n K dX0_findAmong_65 0 rfl ?_
                refine gz_iload K dX0_findAmong_66 5 rfl ?_
                refine gz_put K (x := y5) (by decide) (ce_9 _ _ _ _ _ _) rfl inz_X0 tyX0 tyX0_ok nmX0 4 (by decide) zq1_118 rfl (tyX0_ok _ (by decide)) rfl rfl (Nat.le_of_ble_eq_true rfl) peX0_4 dX0_findAmong_68 ?_
                refine gz_iconst K (v := (1 : Int32)) dX0_findAmong_71 (by decide) ?_
                exact gz_zret K hr (by decide) hp dX0_findAmong_72 (Nat.le_of_ble_eq_true rfl) (Nat.le_of_ble_eq_true rfl)
        obtain ⟨n, hp⟩ := hp
        exact ll_26 n σ y1 y2 y3 y4 r21  hp
  obtain ⟨n, hp⟩ := hp
  exact ll_7 n σ x1 x2 x3 r2  hp
set_option maxRecDepth 100000 in
set_option maxHeartbeats 4000000 in
theorem c_X6_clear {l : Launch} {D : va_G} {ad : Nat → Nat} {ty : Nat → ClassId} (hl : l.stackTraces = false) (hj : ∀ i j, i < 68 → j < 68 → ad i = ad j → i = j) {σ : Dz} {w : Nat} (hw : isW w) {post : Dz → Prop} (hp : P_X6_clear σ w post) : Mz l D ad ty yX6_clear cX6_clear 1 none r_X6_clear nV0 σ [.ref (ad w)] (fun _ τ => post τ) (fun _ _ => False) := by
  refine mz_of (by decide) hl hj (Nat.le_of_ble_eq_true rfl) ?_
  intro p e s m args below meth c K hex hr
  unfold P_X6_clear at hp
  show Gz p l e r_X6_clear s m args below meth c D ad ty 1 0 0 (Ez below D ad ty nV0 (fun _ τ => post τ) (fun _ _ => False) args s 0 0) σ 0 [(0, .ref (ad w))] []
  refine gz_aload_n K dX6_clear_0 0 rfl ?_
  refine gz_iconst K (v := (0 : Int32)) dX6_clear_1 (by decide) ?_
  refine gz_put K (x := (0 : Int32)) (ceW hw).1 ((ceW hw).2 _ _ _ _ _ _) rfl inz_X6 tyX6 tyX6_ok nmX6 1 (by decide) zq1_173 rfl (tyX6_ok _ (by decide)) rfl rfl (Nat.le_of_ble_eq_true rfl) (peX6_1 hw) dX6_clear_2 ?_
  exact gz_vret K hr hp dX6_clear_5 (Nat.le_of_ble_eq_true rfl) (Nat.le_of_ble_eq_true rfl)
set_option maxRecDepth 100000 in
set_option maxHeartbeats 4000000 in
theorem c_X6_add {l : Launch} {D : va_G} {ad : Nat → Nat} {ty : Nat → ClassId} (hl : l.stackTraces = false) (hj : ∀ i j, i < 68 → j < 68 → ad i = ad j → i = j) {σ : Dz} {w : Nat} (hw : isW w) {x1 : Int32} {post : Int32 → Dz → Prop} (hp : P_X6_add σ w x1 post) : Mz l D ad ty yX6_add cX6_add 2 (some .boolean) r_X6_add nI0 σ [.ref (ad w), .int x1] post (fun _ _ => False) := by
  refine mz_of (by decide) hl hj (Nat.le_of_ble_eq_true rfl) ?_
  intro p e s m args below meth c K hex hr
  unfold P_X6_add at hp
  show Gz p l e r_X6_add s m args below meth c D ad ty 2 0 0 (Ez below D ad ty nI0 post (fun _ _ => False) args s 0 0) σ 0 [(0, .ref (ad w)), (1, .int x1)] []
  refine gz_aload_n K dX6_add_0 0 rfl ?_
  refine gz_get K (v := .int (gz_i σ w 1)) (ceW hw).1 ((ceW hw).2 _ _ _ _ _ _) rfl inz_X6 1 (by decide) zq1_173 rfl dX6_add_1 ?_
  refine gz_aload_n K dX6_add_4 0 rfl ?_
  refine gz_get K (v := .ref (ad (w + 1))) (ceW hw).1 ((ceW hw).2 _ _ _ _ _ _) rfl inz_X6 0 (by decide) zq1_172 rfl dX6_add_5 ?_
  refine gz_alen K (v := (200 : Int32)) 3 rfl (caW hw).1 ((caW hw).2 _ _ _ _ _ _) (by decide) dX6_add_8 ?_
  refine gz_icmp_lt K 14 dX6_add_9 (by decide) (fun h => ?_) (fun h => ?_)
  · have hp := hp.1 h
    refine gz_aload_n K dX6_add_14 0 rfl ?_
    refine gz_get K (v := .ref (ad (w + 1))) (ceW hw).1 ((ceW hw).2 _ _ _ _ _ _) rfl inz_X6 0 (by decide) zq1_172 rfl dX6_add_15 ?_
    refine gz_aload_n K dX6_add_18 0 rfl ?_
    refine gz_get K (v := .int (gz_i σ w 1)) (ceW hw).1 ((ceW hw).2 _ _ _ _ _ _) rfl inz_X6 1 (by decide) zq1_173 rfl dX6_add_19 ?_
    refine gz_iload_n K dX6_add_22 1 rfl ?_
    obtain ⟨h, hp⟩ := hp
    refine gz_iast K (x := x1) (caW hw).1 ((caW hw).2 ad ty) h dX6_add_23 ?_
    refine gz_aload_n K dX6_add_24 0 rfl ?_
    refine gz_dup K dX6_add_25 rfl ?_
    refine gz_get K (v := .int (gz_i (sz_i σ (w + 1) ((gz_i σ w 1)).toNatClampNeg x1) w 1)) (ceW hw).1 ((ceW hw).2 _ _ _ _ _ _) rfl inz_X6 1 (by decide) zq1_173 rfl dX6_add_26 ?_
    refine gz_iconst K (v := (1 : Int32)) dX6_add_29 (by decide) ?_
    refine gz_iadd K dX6_add_30 ?_
    refine gz_put K (x := ((gz_i (sz_i σ (w + 1) ((gz_i σ w 1)).toNatClampNeg x1) w 1) + (1 : Int32))) (ceW hw).1 ((ceW hw).2 _ _ _ _ _ _) rfl inz_X6 tyX6 tyX6_ok nmX6 1 (by decide) zq1_173 rfl (tyX6_ok _ (by decide)) rfl rfl (Nat.le_of_ble_eq_true rfl) (peX6_1 hw) dX6_add_31 ?_
    refine gz_iconst K (v := (1 : Int32)) dX6_add_34 (by decide) ?_
    exact gz_zret K hr (by decide) hp dX6_add_35 (Nat.le_of_ble_eq_true rfl) (Nat.le_of_ble_eq_true rfl)
  · have hp := hp.2 h
    refine gz_iconst K (v := (0 : Int32)) dX6_add_12 (by decide) ?_
    exact gz_zret K hr (by decide) hp dX6_add_13 (Nat.le_of_ble_eq_true rfl) (Nat.le_of_ble_eq_true rfl)
set_option maxRecDepth 100000 in
set_option maxHeartbeats 4000000 in
theorem c_X0_writeWord {l : Launch} {D : va_G} {ad : Nat → Nat} {ty : Nat → ClassId} (hl : l.stackTraces = false) (hj : ∀ i j, i < 68 → j < 68 → ad i = ad j → i = j) {σ : Dz} {w2 : Nat} (h2 : isW w2) {x1 : Int32} {post : Dz → Prop} (hp : P_X0_writeWord σ w2 x1 post) : Mz l D ad ty yX0_writeWord cX0_writeWord 4 none r_X0_writeWord nV0 σ [.ref (ad 9), .int x1, .ref (ad w2)] (fun _ τ => post τ) (fun _ _ => False) := by
  refine mz_of (by decide) hl hj (Nat.le_of_ble_eq_true rfl) ?_
  intro p e s m args below meth c K hex hr
  unfold P_X0_writeWord at hp
  have bb_26 : ∀ (σ : Dz) (y1 : Int32) , B_X0_writeWord_26 w2 post  σ y1 → Gz p l e r_X0_writeWord s m args below meth c D ad ty 4 0 0 (Ez below D ad ty nV0 (fun _ τ => post τ) (fun _ _ => False) args s 0 0) σ 26 [(0, .ref (ad 9)), (1, .int y1), (2, .ref (ad w2))] [] := by
    intro σ y1 hp
    unfold B_X0_writeWord_26 at hp
    refine gz_aload_n K dX0_writeWord_26 0 rfl ?_
    refine gz_get K (v := .int (gz_i σ 9 2)) (by decide) (ce_9 _ _ _ _ _ _) rfl inz_X0 2 (by decide) zq1_116 rfl dX0_writeWord_27 ?_
    refine gz_if_le K 89 dX0_writeWord_30 (by decide) (fun h => ?_) (fun h => ?_)
    · have hp := hp.1 h
      exact gz_vret K hr hp dX0_writeWord_89 (Nat.le_of_ble_eq_true rfl) (Nat.le_of_ble_eq_true rfl)
    · have hp := hp.2 h
      refine gz_iload_n K dX0_writeWord_33 1 rfl ?_
      refine gz_aload_n K dX0_writeWord_34 0 rfl ?_
      refine gz_get K (v := .int (gz_i σ 9 2)) (by decide) (ce_9 _ _ _ _ _ _) rfl inz_X0 2 (by decide) zq1_116 rfl dX0_writeWord_35 ?_
      refine gz_icmp_lt K 89 dX0_writeWord_38 (by decide) (fun h => ?_) (fun h => ?_)
      · have hp := hp.1 h
        exact gz_vret K hr hp dX0_writeWord_89 (Nat.le_of_ble_eq_true rfl) (Nat.le_of_ble_eq_true rfl)
      · have hp := hp.2 h
        refine gz_iload_n K dX0_writeWord_41 1 rfl ?_
        refine gz_aload_n K dX0_writeWord_42 0 rfl ?_
        refine gz_iconst K (v := (3 : Int32)) dX0_writeWord_43 (by decide) ?_
        refine gz_callV K hex (c_X0_startOf K.2.2.2.2.2 K.2.2.1 hp) cf_X0_startOf zq4_192 (by decide) (ce_9 _ _ _ _ _ _) rfl dX0_writeWord_44 rfl rfl (Nat.le_of_ble_eq_true rfl) ⟨Nat.le_of_ble_eq_true rfl, Nat.le_of_ble_eq_true rfl⟩ ⟨Nat.le_of_ble_eq_true rfl, Nat.le_of_ble_eq_true rfl⟩ (Nat.le_of_ble_eq_true rfl) (Nat.le_of_ble_eq_true rfl) (fun _ _ h => h.elim) (fun r44 τ hp => ?_)
        obtain ⟨rfl, hp⟩ := hp
        refine gz_norm (st' := [.int r44, .int y1]) (cells' := 0) (slots' := 0) rfl rfl rfl ?_
        refine gz_icmp_ge K 89 dX0_writeWord_47 (by decide) (fun h => ?_) (fun h => ?_)
        · have hp := hp.1 h
          exact gz_vret K hr hp dX0_writeWord_89 (Nat.le_of_ble_eq_true rfl) (Nat.le_of_ble_eq_true rfl)
        · have hp := hp.2 h
          refine gz_iload_n K dX0_writeWord_50 1 rfl ?_
          refine gz_aload_n K dX0_writeWord_51 0 rfl ?_
          refine gz_get K (v := .int (gz_i σ 9 2)) (by decide) (ce_9 _ _ _ _ _ _) rfl inz_X0 2 (by decide) zq1_116 rfl dX0_writeWord_52 ?_
          refine gz_isub K dX0_writeWord_55 ?_
          refine gz_istore_n K [(3, .int (y1 - (gz_i σ 9 2))), (0, .ref (ad 9)), (1, .int y1), (2, .ref (ad w2))] dX0_writeWord_56 (by decide) rfl ?_
          refine gz_aload_n K dX0_writeWord_57 3 rfl ?_
          refine gz_aload_n K dX0_writeWord_58 1 rfl ?_
          refine gz_get K (v := .ref (ad 10)) (by decide) (ce_9 _ _ _ _ _ _) rfl inz_X0 0 (by decide) zq1_114 rfl dX0_writeWord_59 ?_
          refine gz_iload_n K dX0_writeWord_62 0 rfl ?_
          refine gz_aload_n K dX0_writeWord_63 1 rfl ?_
          refine gz_get K (v := .int (gz_i σ 9 2)) (by decide) (ce_9 _ _ _ _ _ _) rfl inz_X0 2 (by decide) zq1_116 rfl dX0_writeWord_64 ?_
          obtain ⟨h, hp⟩ := hp
          refine gz_idiv K dX0_writeWord_67 h ?_
          obtain ⟨h, hp⟩ := hp
          refine gz_iald K (by decide) (ce_10 _ _ _ _ _ _) h dX0_writeWord_68 ?_
          refine gz_callV K hex (c_X6_add K.2.2.2.2.2 K.2.2.1 h2 hp) cf_X6_add zq4_205 (ceW h2).1 ((ceW h2).2 _ _ _ _ _ _) rfl dX0_writeWord_69 rfl rfl (Nat.le_of_ble_eq_true rfl) ⟨Nat.le_of_ble_eq_true rfl, Nat.le_of_ble_eq_true rfl⟩ ⟨Nat.le_of_ble_eq_true rfl, Nat.le_of_ble_eq_true rfl⟩ (Nat.le_of_ble_eq_true rfl) (Nat.le_of_ble_eq_true rfl) (fun _ _ h => h.elim) (fun r69 τ69 hp => ?_)
          refine gz_norm (st' := [.int r69]) (cells' := 0) (slots' := 0) rfl rfl rfl ?_
          refine gz_pop K dX0_writeWord_72 rfl ?_
          refine gz_aload_n K dX0_writeWord_73 3 rfl ?_
          refine gz_aload_n K dX0_writeWord_74 1 rfl ?_
          refine gz_get K (v := .ref (ad 10)) (by decide) (ce_9 _ _ _ _ _ _) rfl inz_X0 0 (by decide) zq1_114 rfl dX0_writeWord_75 ?_
          refine gz_iload_n K dX0_writeWord_78 0 rfl ?_
          refine gz_aload_n K dX0_writeWord_79 1 rfl ?_
          refine gz_get K (v := .int (gz_i τ69 9 2)) (by decide) (ce_9 _ _ _ _ _ _) rfl inz_X0 2 (by decide) zq1_116 rfl dX0_writeWord_80 ?_
          obtain ⟨h, hp⟩ := hp
          refine gz_irem K dX0_writeWord_83 h ?_
          obtain ⟨h, hp⟩ := hp
          refine gz_iald K (by decide) (ce_10 _ _ _ _ _ _) h dX0_writeWord_84 ?_
          refine gz_callV K hex (c_X6_add K.2.2.2.2.2 K.2.2.1 h2 hp) cf_X6_add zq4_205 (ceW h2).1 ((ceW h2).2 _ _ _ _ _ _) rfl dX0_writeWord_85 rfl rfl (Nat.le_of_ble_eq_true rfl) ⟨Nat.le_of_ble_eq_true rfl, Nat.le_of_ble_eq_true rfl⟩ ⟨Nat.le_of_ble_eq_true rfl, Nat.le_of_ble_eq_true rfl⟩ (Nat.le_of_ble_eq_true rfl) (Nat.le_of_ble_eq_true rfl) (fun _ _ h => h.elim) (fun r85 τ85 hp => ?_)
          refine gz_norm (st' := [.int r85]) (cells' := 0) (slots' := 0) rfl rfl rfl ?_
          refine gz_pop K dX0_writeWord_88 rfl ?_
          exact gz_vret K hr hp dX0_writeWord_89 (Nat.le_of_ble_eq_true rfl) (Nat.le_of_ble_eq_true rfl)
  show Gz p l e r_X0_writeWord s m args below meth c D ad ty 4 0 0 (Ez below D ad ty nV0 (fun _ τ => post τ) (fun _ _ => False) args s 0 0) σ 0 [(0, .ref (ad 9)), (1, .int x1), (2, .ref (ad w2))] []
  refine gz_iload_n K dX0_writeWord_0 1 rfl ?_
  refine gz_if_lt K 26 dX0_writeWord_1 (by decide) (fun h => ?_) (fun h => ?_)
  · have hp := hp.1 h
    exact bb_26 σ x1  hp
  · have hp := hp.2 h
    refine gz_iload_n K dX0_writeWord_4 1 rfl ?_
    refine gz_aload_n K dX0_writeWord_5 0 rfl ?_
    refine gz_get K (v := .int (gz_i σ 9 2)) (by decide) (ce_9 _ _ _ _ _ _) rfl inz_X0 2 (by decide) zq1_116 rfl dX0_writeWord_6 ?_
    refine gz_icmp_ge K 26 dX0_writeWord_9 (by decide) (fun h => ?_) (fun h => ?_)
    · have hp := hp.1 h
      exact bb_26 σ x1  hp
    · have hp := hp.2 h
      refine gz_aload_n K dX0_writeWord_12 2 rfl ?_
      refine gz_aload_n K dX0_writeWord_13 0 rfl ?_
      refine gz_get K (v := .ref (ad 10)) (by decide) (ce_9 _ _ _ _ _ _) rfl inz_X0 0 (by decide) zq1_114 rfl dX0_writeWord_14 ?_
      refine gz_iload_n K dX0_writeWord_17 1 rfl ?_
      obtain ⟨h, hp⟩ := hp
      refine gz_iald K (by decide) (ce_10 _ _ _ _ _ _) h dX0_writeWord_18 ?_
      refine gz_callV K hex (c_X6_add K.2.2.2.2.2 K.2.2.1 h2 hp) cf_X6_add zq4_205 (ceW h2).1 ((ceW h2).2 _ _ _ _ _ _) rfl dX0_writeWord_19 rfl rfl (Nat.le_of_ble_eq_true rfl) ⟨Nat.le_of_ble_eq_true rfl, Nat.le_of_ble_eq_true rfl⟩ ⟨Nat.le_of_ble_eq_true rfl, Nat.le_of_ble_eq_true rfl⟩ (Nat.le_of_ble_eq_true rfl) (Nat.le_of_ble_eq_true rfl) (fun _ _ h => h.elim) (fun r19 τ19 hp => ?_)
      refine gz_norm (st' := [.int r19]) (cells' := 0) (slots' := 0) rfl rfl rfl ?_
      refine gz_pop K dX0_writeWord_22 rfl ?_
      refine gz_goto K 89 dX0_writeWord_23 (by decide) ?_
      exact gz_vret K hr hp dX0_writeWord_89 (Nat.le_of_ble_eq_true rfl) (Nat.le_of_ble_eq_true rfl)
set_option maxRecDepth 100000 in
set_option maxHeartbeats 4000000 in
theorem c_X6_length {l : Launch} {D : va_G} {ad : Nat → Nat} {ty : Nat → ClassId} (hl : l.stackTraces = false) (hj : ∀ i j, i < 68 → j < 68 → ad i = ad j → i = j) {σ : Dz} {w : Nat} (hw : isW w) {post : Int32 → Prop} (hp : P_X6_length σ w post) : Mz l D ad ty yX6_length cX6_length 1 (some .int) r_X6_length nI0 σ [.ref (ad w)] (fun r τ => σ = τ ∧ post r) (fun _ _ => False) := by
  refine mz_of (by decide) hl hj (Nat.le_of_ble_eq_true rfl) ?_
  intro p e s m args below meth c K hex hr
  unfold P_X6_length at hp
  show Gz p l e r_X6_length s m args below meth c D ad ty 1 0 0 (Ez below D ad ty nI0 (fun r τ => σ = τ ∧ post r) (fun _ _ => False) args s 0 0) σ 0 [(0, .ref (ad w))] []
  refine gz_aload_n K dX6_length_0 0 rfl ?_
  refine gz_get K (v := .int (gz_i σ w 1)) (ceW hw).1 ((ceW hw).2 _ _ _ _ _ _) rfl inz_X6 1 (by decide) zq1_173 rfl dX6_length_1 ?_
  exact gz_iret K hr ⟨rfl, hp⟩ dX6_length_4 (Nat.le_of_ble_eq_true rfl) (Nat.le_of_ble_eq_true rfl)
set_option maxRecDepth 100000 in
set_option maxHeartbeats 4000000 in
theorem c_X6_at {l : Launch} {D : va_G} {ad : Nat → Nat} {ty : Nat → ClassId} (hl : l.stackTraces = false) (hj : ∀ i j, i < 68 → j < 68 → ad i = ad j → i = j) {σ : Dz} {w : Nat} (hw : isW w) {x1 : Int32} {post : Int32 → Prop} (hp : P_X6_at σ w x1 post) : Mz l D ad ty yX6_at cX6_at 2 (some .int) r_X6_at nI0 σ [.ref (ad w), .int x1] (fun r τ => σ = τ ∧ post r) (fun _ _ => False) := by
  refine mz_of (by decide) hl hj (Nat.le_of_ble_eq_true rfl) ?_
  intro p e s m args below meth c K hex hr
  unfold P_X6_at at hp
  show Gz p l e r_X6_at s m args below meth c D ad ty 2 0 0 (Ez below D ad ty nI0 (fun r τ => σ = τ ∧ post r) (fun _ _ => False) args s 0 0) σ 0 [(0, .ref (ad w)), (1, .int x1)] []
  refine gz_iload_n K dX6_at_0 1 rfl ?_
  refine gz_if_lt K 21 dX6_at_1 (by decide) (fun h => ?_) (fun h => ?_)
  · have hp := hp.1 h
    refine gz_iconst K (v := (0 : Int32)) dX6_at_21 (by decide) ?_
    exact gz_iret K hr ⟨rfl, hp⟩ dX6_at_22 (Nat.le_of_ble_eq_true rfl) (Nat.le_of_ble_eq_true rfl)
  · have hp := hp.2 h
    refine gz_iload_n K dX6_at_4 1 rfl ?_
    refine gz_aload_n K dX6_at_5 0 rfl ?_
    refine gz_get K (v := .int (gz_i σ w 1)) (ceW hw).1 ((ceW hw).2 _ _ _ _ _ _) rfl inz_X6 1 (by decide) zq1_173 rfl dX6_at_6 ?_
    refine gz_icmp_ge K 21 dX6_at_9 (by decide) (fun h => ?_) (fun h => ?_)
    · have hp := hp.1 h
      refine gz_iconst K (v := (0 : Int32)) dX6_at_21 (by decide) ?_
      exact gz_iret K hr ⟨rfl, hp⟩ dX6_at_22 (Nat.le_of_ble_eq_true rfl) (Nat.le_of_ble_eq_true rfl)
    · have hp := hp.2 h
      refine gz_aload_n K dX6_at_12 0 rfl ?_
      refine gz_get K (v := .ref (ad (w + 1))) (ceW hw).1 ((ceW hw).2 _ _ _ _ _ _) rfl inz_X6 0 (by decide) zq1_172 rfl dX6_at_13 ?_
      refine gz_iload_n K dX6_at_16 1 rfl ?_
      obtain ⟨h, hp⟩ := hp
      refine gz_iald K (caW hw).1 ((caW hw).2 _ _ _ _ _ _) h dX6_at_17 ?_
      refine gz_goto K 22 dX6_at_18 (by decide) ?_
      exact gz_iret K hr ⟨rfl, hp⟩ dX6_at_22 (Nat.le_of_ble_eq_true rfl) (Nat.le_of_ble_eq_true rfl)
set_option maxRecDepth 100000 in
set_option maxHeartbeats 4000000 in
theorem c_X6_addInverseOfPart {l : Launch} {D : va_G} {ad : Nat → Nat} {ty : Nat → ClassId} (hl : l.stackTraces = false) (hj : ∀ i j, i < 68 → j < 68 → ad i = ad j → i = j) {σ : Dz} {w : Nat} {w1 : Nat} (hw : isW w) (h1 : isW w1) {x2 : Int32} {x3 : Int32} {post : Int32 → Dz → Prop} (hp : P_X6_addInverseOfPart σ w w1 x2 x3 post) : Mz l D ad ty yX6_addInverseOfPart cX6_addInverseOfPart 6 (some .boolean) r_X6_addInverseOfPart nI0 σ [.ref (ad w), .ref (ad w1), .int x2, .int x3] post (fun _ _ => False) := by
  refine mz_of (by decide) hl hj (Nat.le_of_ble_eq_true rfl) ?_
  intro p e s m args below meth c K hex hr
  unfold P_X6_addInverseOfPart at hp
  show Gz p l e r_X6_addInverseOfPart s m args below meth c D ad ty 6 0 0 (Ez below D ad ty nI0 post (fun _ _ => False) args s 0 0) σ 0 [(0, .ref (ad w)), (1, .ref (ad w1)), (2, .int x2), (3, .int x3)] []
  refine gz_iconst K (v := (1 : Int32)) dX6_addInverseOfPart_0 (by decide) ?_
  refine gz_istore K [(4, .int (1 : Int32)), (0, .ref (ad w)), (1, .ref (ad w1)), (2, .int x2), (3, .int x3)] dX6_addInverseOfPart_1 (by decide) rfl ?_
  refine gz_iload_n K dX6_addInverseOfPart_3 4 rfl ?_
  refine gz_iconst K (v := (1 : Int32)) dX6_addInverseOfPart_4 (by decide) ?_
  refine gz_isub K dX6_addInverseOfPart_5 ?_
  refine gz_istore K [(5, .int (x3 - (1 : Int32))), (4, .int (1 : Int32)), (0, .ref (ad w)), (1, .ref (ad w1)), (2, .int x2), (3, .int x3)] dX6_addInverseOfPart_6 (by decide) rfl ?_
  refine gz_sub [2, 3, 4, 1, 0] rfl ?_
  have ll_8 : ∀ (n_8 : Nat) (σ : Dz) (y2 : Int32) (y4 : Int32) (y5 : Int32) , L_X6_addInverseOfPart_8 w w1 post  n_8 σ y2 y4 y5 → Gz p l e r_X6_addInverseOfPart s m args below meth c D ad ty 6 0 0 (Ez below D ad ty nI0 post (fun _ _ => False) args s 0 0) σ 8 [(0, .ref (ad w)), (1, .ref (ad w1)), (2, .int y2), (4, .int y4), (5, .int y5)] [] := by
    intro n_8; induction n_8 with
    | zero => intro σ y2 y4 y5 hp; exact False.elim hp
    | succ n_8 ih_8 =>
      intro σ y2 y4 y5 hp
      have hp : B_X6_addInverseOfPart_8 w w1 post  (L_X6_addInverseOfPart_8 w w1 post  n_8) σ y2 y4 y5 := hp
      unfold B_X6_addInverseOfPart_8 at hp
      refine gz_iload K dX6_addInverseOfPart_8 3 rfl ?_
      refine gz_if_eq K 39 dX6_addInverseOfPart_10 (by decide) (fun h => ?_) (fun h => ?_)
      · have hp := hp.1 h
        refine gz_iload K dX6_addInverseOfPart_39 3 rfl ?_
        exact gz_zret K hr (nB hp.1) hp.2 dX6_addInverseOfPart_41 (Nat.le_of_ble_eq_true rfl) (Nat.le_of_ble_eq_true rfl)
      · have hp := hp.2 h
        refine gz_iload K dX6_addInverseOfPart_13 4 rfl ?_
        refine gz_iload_n K dX6_addInverseOfPart_15 2 rfl ?_
        refine gz_icmp_lt K 39 dX6_addInverseOfPart_16 (by decide) (fun h => ?_) (fun h => ?_)
        · have hp := hp.1 h
          refine gz_iload K dX6_addInverseOfPart_39 3 rfl ?_
          exact gz_zret K hr (nB hp.1) hp.2 dX6_addInverseOfPart_41 (Nat.le_of_ble_eq_true rfl) (Nat.le_of_ble_eq_true rfl)
        · have hp := hp.2 h
          refine gz_aload_n K dX6_addInverseOfPart_19 0 rfl ?_
          refine gz_aload_n K dX6_addInverseOfPart_20 1 rfl ?_
          refine gz_iload K dX6_addInverseOfPart_21 4 rfl ?_
          refine gz_callV K hex (c_X6_at K.2.2.2.2.2 K.2.2.1 h1 hp) cf_X6_at zq2_115 (ceW h1).1 ((ceW h1).2 _ _ _ _ _ _) rfl dX6_addInverseOfPart_23 rfl rfl (Nat.le_of_ble_eq_true rfl) ⟨Nat.le_of_ble_eq_true rfl, Nat.le_of_ble_eq_true rfl⟩ ⟨Nat.le_of_ble_eq_true rfl, Nat.le_of_ble_eq_true rfl⟩ (Nat.le_of_ble_eq_true rfl) (Nat.le_of_ble_eq_true rfl) (fun _ _ h => h.elim) (fun r23 τ hp => ?_)
          obtain ⟨rfl, hp⟩ := hp
          refine gz_norm (st' := [.int r23, .ref (ad w)]) (cells' := 0) (slots' := 0) rfl rfl rfl ?_
          refine gz_iconst K (v := (1 : Int32)) dX6_addInverseOfPart_26 (by decide) ?_
          refine gz_ixor K dX6_addInverseOfPart_27 ?_
          refine gz_callV K hex (c_X6_add K.2.2.2.2.2 K.2.2.1 hw hp) cf_X6_add zq2_119 (ceW hw).1 ((ceW hw).2 _ _ _ _ _ _) rfl dX6_addInverseOfPart_28 rfl rfl (Nat.le_of_ble_eq_true rfl) ⟨Nat.le_of_ble_eq_true rfl, Nat.le_of_ble_eq_true rfl⟩ ⟨Nat.le_of_ble_eq_true rfl, Nat.le_of_ble_eq_true rfl⟩ (Nat.le_of_ble_eq_true rfl) (Nat.le_of_ble_eq_true rfl) (fun _ _ h => h.elim) (fun r28 τ28 hp => ?_)
          refine gz_norm (st' := [.int r28]) (cells' := 0) (slots' := 0) rfl rfl rfl ?_
          refine gz_istore K [(4, .int r28), (0, .ref (ad w)), (1, .ref (ad w1)), (2, .int y2), (5, .int y5)] dX6_addInverseOfPart_31 (by decide) rfl ?_
          refine gz_iinc K (v := (y5 + (-1))) [(5, .int (y5 + (-1))), (4, .int r28), (0, .ref (ad w)), (1, .ref (ad w1)), (2, .int y2)] dX6_addInverseOfPart_33 4 rfl (by first | rfl | decide) (by decide) rfl ?_
          refine gz_goto K 8 dX6_addInverseOfPart_36 (by decide) ?_
          refine gz_sub [2, 3, 4, 1, 0] rfl ?_
          exact ih_8 τ28 y2 r28 (y5 + (-1))  hp
  obtain ⟨n, hp⟩ := hp
  exact ll_8 n σ x2 (1 : Int32) (x3 - (1 : Int32))  hp
set_option maxRecDepth 100000 in
set_option maxHeartbeats 4000000 in
theorem c_X6_closeCommutator {l : Launch} {D : va_G} {ad : Nat → Nat} {ty : Nat → ClassId} (hl : l.stackTraces = false) (hj : ∀ i j, i < 68 → j < 68 → ad i = ad j → i = j) {σ : Dz} {w : Nat} (hw : isW w) {x1 : Int32} {x2 : Int32} {post : Int32 → Dz → Prop} (hp : P_X6_closeCommutator σ w x1 x2 post) : Mz l D ad ty yX6_closeCommutator cX6_closeCommutator 4 (some .boolean) r_X6_closeCommutator nI0 σ [.ref (ad w), .int x1, .int x2] post (fun _ _ => False) := by
  refine mz_of (by decide) hl hj (Nat.le_of_ble_eq_true rfl) ?_
  intro p e s m args below meth c K hex hr
  unfold P_X6_closeCommutator at hp
  show Gz p l e r_X6_closeCommutator s m args below meth c D ad ty 4 0 0 (Ez below D ad ty nI0 post (fun _ _ => False) args s 0 0) σ 0 [(0, .ref (ad w)), (1, .int x1), (2, .int x2)] []
  refine gz_aload_n K dX6_closeCommutator_0 0 rfl ?_
  refine gz_get K (v := .int (gz_i σ w 1)) (ceW hw).1 ((ceW hw).2 _ _ _ _ _ _) rfl inz_X6 1 (by decide) zq1_173 rfl dX6_closeCommutator_1 ?_
  refine gz_istore_n K [(3, .int (gz_i σ w 1)), (0, .ref (ad w)), (1, .int x1), (2, .int x2)] dX6_closeCommutator_4 (by decide) rfl ?_
  refine gz_aload_n K dX6_closeCommutator_5 1 rfl ?_
  refine gz_aload_n K dX6_closeCommutator_6 1 rfl ?_
  refine gz_iload_n K dX6_closeCommutator_7 2 rfl ?_
  refine gz_iload_n K dX6_closeCommutator_8 3 rfl ?_
  refine gz_callV K hex (c_X6_addInverseOfPart K.2.2.2.2.2 K.2.2.1 hw hw hp) cf_X6_addInverseOfPart zq3_170 (ceW hw).1 ((ceW hw).2 _ _ _ _ _ _) rfl dX6_closeCommutator_9 rfl rfl (Nat.le_of_ble_eq_true rfl) ⟨Nat.le_of_ble_eq_true rfl, Nat.le_of_ble_eq_true rfl⟩ ⟨Nat.le_of_ble_eq_true rfl, Nat.le_of_ble_eq_true rfl⟩ (Nat.le_of_ble_eq_true rfl) (Nat.le_of_ble_eq_true rfl) (fun _ _ h => h.elim) (fun r9 τ9 hp => ?_)
  refine gz_norm (st' := [.int r9]) (cells' := 0) (slots' := 0) rfl rfl rfl ?_
  refine gz_if_eq K 29 dX6_closeCommutator_12 (by decide) (fun h => ?_) (fun h => ?_)
  · have hp := hp.1 h
    refine gz_iconst K (v := (0 : Int32)) dX6_closeCommutator_29 (by decide) ?_
    exact gz_zret K hr (by decide) hp dX6_closeCommutator_30 (Nat.le_of_ble_eq_true rfl) (Nat.le_of_ble_eq_true rfl)
  · have hp := hp.2 h
    refine gz_aload_n K dX6_closeCommutator_15 1 rfl ?_
    refine gz_aload_n K dX6_closeCommutator_16 1 rfl ?_
    refine gz_iload_n K dX6_closeCommutator_17 3 rfl ?_
    refine gz_iload_n K dX6_closeCommutator_18 0 rfl ?_
    refine gz_callV K hex (c_X6_addInverseOfPart K.2.2.2.2.2 K.2.2.1 hw hw hp) cf_X6_addInverseOfPart zq3_170 (ceW hw).1 ((ceW hw).2 _ _ _ _ _ _) rfl dX6_closeCommutator_19 rfl rfl (Nat.le_of_ble_eq_true rfl) ⟨Nat.le_of_ble_eq_true rfl, Nat.le_of_ble_eq_true rfl⟩ ⟨Nat.le_of_ble_eq_true rfl, Nat.le_of_ble_eq_true rfl⟩ (Nat.le_of_ble_eq_true rfl) (Nat.le_of_ble_eq_true rfl) (fun _ _ h => h.elim) (fun r19 τ19 hp => ?_)
    refine gz_norm (st' := [.int r19]) (cells' := 0) (slots' := 0) rfl rfl rfl ?_
    refine gz_if_eq K 29 dX6_closeCommutator_22 (by decide) (fun h => ?_) (fun h => ?_)
    · have hp := hp.1 h
      refine gz_iconst K (v := (0 : Int32)) dX6_closeCommutator_29 (by decide) ?_
      exact gz_zret K hr (by decide) hp dX6_closeCommutator_30 (Nat.le_of_ble_eq_true rfl) (Nat.le_of_ble_eq_true rfl)
    · have hp := hp.2 h
      refine gz_iconst K (v := (1 : Int32)) dX6_closeCommutator_25 (by decide) ?_
      refine gz_goto K 30 dX6_closeCommutator_26 (by decide) ?_
      exact gz_zret K hr (by decide) hp dX6_closeCommutator_30 (Nat.le_of_ble_eq_true rfl) (Nat.le_of_ble_eq_true rfl)
set_option maxRecDepth 100000 in
set_option maxHeartbeats 4000000 in
theorem c_X0_find {l : Launch} {D : va_G} {ad : Nat → Nat} {ty : Nat → ClassId} (hl : l.stackTraces = false) (hj : ∀ i j, i < 68 → j < 68 → ad i = ad j → i = j) {σ : Dz} {k1 : Nat} {w3 : Nat} (h1 : isS k1) (h3 : isW w3) {x2 : Int32} {post : Int32 → Dz → Prop} (hp : P_X0_find σ k1 w3 x2 post) : Mz l D ad ty yX0_find cX0_find 6 (some .boolean) r_X0_find nI0 σ [.ref (ad 9), .ref (ad k1), .int x2, .ref (ad w3)] post (fun _ _ => False) := by
  refine mz_of (by decide) hl hj (Nat.le_of_ble_eq_true rfl) ?_
  intro p e s m args below meth c K hex hr
  unfold P_X0_find at hp
  have bb_62 : ∀ (σ : Dz) (z0 : Int32) , B_X0_find_62 k1 w3 post  σ z0 → Gz p l e r_X0_find s m args below meth c D ad ty 6 0 0 (Ez below D ad ty nI0 post (fun _ _ => False) args s 0 0) σ 62 [(0, .ref (ad 9)), (3, .ref (ad w3))] [.int z0] := by
    intro σ z0 hp
    unfold B_X0_find_62 at hp
    refine gz_istore K [(4, .int z0), (0, .ref (ad 9)), (3, .ref (ad w3))] dX0_find_62 (by decide) rfl ?_
    refine gz_iload K dX0_find_64 0 rfl ?_
    refine gz_if_eq K 105 dX0_find_66 (by decide) (fun h => ?_) (fun h => ?_)
    · have hp := hp.1 h
      refine gz_iload K dX0_find_105 0 rfl ?_
      exact gz_zret K hr (nB hp.1) hp.2 dX0_find_107 (Nat.le_of_ble_eq_true rfl) (Nat.le_of_ble_eq_true rfl)
    · have hp := hp.2 h
      refine gz_aload_n K dX0_find_69 2 rfl ?_
      refine gz_callV K hex (c_X6_clear K.2.2.2.2.2 K.2.2.1 h3 hp) cf_X6_clear zq4_200 (ceW h3).1 ((ceW h3).2 _ _ _ _ _ _) rfl dX0_find_70 rfl rfl (Nat.le_of_ble_eq_true rfl) ⟨Nat.le_of_ble_eq_true rfl, Nat.le_of_ble_eq_true rfl⟩ ⟨Nat.le_of_ble_eq_true rfl, Nat.le_of_ble_eq_true rfl⟩ (Nat.le_of_ble_eq_true rfl) (Nat.le_of_ble_eq_true rfl) (fun _ _ h => h.elim) (fun _ τ70 hp => ?_)
      refine gz_norm (st' := []) (cells' := 0) (slots' := 0) rfl rfl rfl ?_
      refine gz_aload_n K dX0_find_73 1 rfl ?_
      refine gz_aload_n K dX0_find_74 1 rfl ?_
      refine gz_get K (v := .int (gz_i τ70 9 3)) (by decide) (ce_9 _ _ _ _ _ _) rfl inz_X0 3 (by decide) zq1_117 rfl dX0_find_75 ?_
      refine gz_aload_n K dX0_find_78 2 rfl ?_
      refine gz_callV K hex (c_X0_writeWord K.2.2.2.2.2 K.2.2.1 h3 hp) cf_X0_writeWord zq4_201 (by decide) (ce_9 _ _ _ _ _ _) rfl dX0_find_79 rfl rfl (Nat.le_of_ble_eq_true rfl) ⟨Nat.le_of_ble_eq_true rfl, Nat.le_of_ble_eq_true rfl⟩ ⟨Nat.le_of_ble_eq_true rfl, Nat.le_of_ble_eq_true rfl⟩ (Nat.le_of_ble_eq_true rfl) (Nat.le_of_ble_eq_true rfl) (fun _ _ h => h.elim) (fun _ τ79 hp => ?_)
      refine gz_norm (st' := []) (cells' := 0) (slots' := 0) rfl rfl rfl ?_
      refine gz_aload_n K dX0_find_82 2 rfl ?_
      refine gz_callV K hex (c_X6_length K.2.2.2.2.2 K.2.2.1 h3 hp) cf_X6_length zq4_206 (ceW h3).1 ((ceW h3).2 _ _ _ _ _ _) rfl dX0_find_83 rfl rfl (Nat.le_of_ble_eq_true rfl) ⟨Nat.le_of_ble_eq_true rfl, Nat.le_of_ble_eq_true rfl⟩ ⟨Nat.le_of_ble_eq_true rfl, Nat.le_of_ble_eq_true rfl⟩ (Nat.le_of_ble_eq_true rfl) (Nat.le_of_ble_eq_true rfl) (fun _ _ h => h.elim) (fun r83 τ hp => ?_)
      obtain ⟨rfl, hp⟩ := hp
      refine gz_norm (st' := [.int r83]) (cells' := 0) (slots' := 0) rfl rfl rfl ?_
      refine gz_istore K [(5, .int r83), (4, .int z0), (0, .ref (ad 9)), (3, .ref (ad w3))] dX0_find_86 (by decide) rfl ?_
      refine gz_aload_n K dX0_find_88 2 rfl ?_
      refine gz_aload_n K dX0_find_89 2 rfl ?_
      refine gz_get K (v := .int (gz_i τ79 9 4)) (by decide) (ce_9 _ _ _ _ _ _) rfl inz_X0 4 (by decide) zq1_118 rfl dX0_find_90 ?_
      refine gz_aload_n K dX0_find_93 3 rfl ?_
      refine gz_callV K hex (c_X0_writeWord K.2.2.2.2.2 K.2.2.1 h3 hp) cf_X0_writeWord zq4_201 (by decide) (ce_9 _ _ _ _ _ _) rfl dX0_find_94 rfl rfl (Nat.le_of_ble_eq_true rfl) ⟨Nat.le_of_ble_eq_true rfl, Nat.le_of_ble_eq_true rfl⟩ ⟨Nat.le_of_ble_eq_true rfl, Nat.le_of_ble_eq_true rfl⟩ (Nat.le_of_ble_eq_true rfl) (Nat.le_of_ble_eq_true rfl) (fun _ _ h => h.elim) (fun _ τ94 hp => ?_)
      refine gz_norm (st' := []) (cells' := 0) (slots' := 0) rfl rfl rfl ?_
      refine gz_aload_n K dX0_find_97 3 rfl ?_
      refine gz_iconst K (v := (0 : Int32)) dX0_find_98 (by decide) ?_
      refine gz_iload K dX0_find_99 0 rfl ?_
      refine gz_callV K hex (c_X6_closeCommutator K.2.2.2.2.2 K.2.2.1 h3 hp) cf_X6_closeCommutator zq4_207 (ceW h3).1 ((ceW h3).2 _ _ _ _ _ _) rfl dX0_find_101 rfl rfl (Nat.le_of_ble_eq_true rfl) ⟨Nat.le_of_ble_eq_true rfl, Nat.le_of_ble_eq_true rfl⟩ ⟨Nat.le_of_ble_eq_true rfl, Nat.le_of_ble_eq_true rfl⟩ (Nat.le_of_ble_eq_true rfl) (Nat.le_of_ble_eq_true rfl) (fun _ _ h => h.elim) (fun r101 τ101 hp => ?_)
      refine gz_norm (st' := [.int r101]) (cells' := 0) (slots' := 0) rfl rfl rfl ?_
      refine gz_pop K dX0_find_104 rfl ?_
      refine gz_iload K dX0_find_105 1 rfl ?_
      exact gz_zret K hr (nB hp.1) hp.2 dX0_find_107 (Nat.le_of_ble_eq_true rfl) (Nat.le_of_ble_eq_true rfl)
  have bb_57 : ∀ (σ : Dz) , B_X0_find_57 k1 w3 post  σ → Gz p l e r_X0_find s m args below meth c D ad ty 6 0 0 (Ez below D ad ty nI0 post (fun _ _ => False) args s 0 0) σ 57 [(0, .ref (ad 9)), (3, .ref (ad w3))] [] := by
    intro σ hp
    unfold B_X0_find_57 at hp
    refine gz_iconst K (v := (1 : Int32)) dX0_find_57 (by decide) ?_
    refine gz_goto K 62 dX0_find_58 (by decide) ?_
    exact bb_62 σ (1 : Int32)  hp
  show Gz p l e r_X0_find s m args below meth c D ad ty 6 0 0 (Ez below D ad ty nI0 post (fun _ _ => False) args s 0 0) σ 0 [(0, .ref (ad 9)), (1, .ref (ad k1)), (2, .int x2), (3, .ref (ad w3))] []
  refine gz_iload_n K dX0_find_0 2 rfl ?_
  refine gz_if_lt K 10 dX0_find_1 (by decide) (fun h => ?_) (fun h => ?_)
  · have hp := hp.1 h
    refine gz_iconst K (v := (0 : Int32)) dX0_find_10 (by decide) ?_
    exact gz_zret K hr (by decide) hp dX0_find_11 (Nat.le_of_ble_eq_true rfl) (Nat.le_of_ble_eq_true rfl)
  · have hp := hp.2 h
    refine gz_iload_n K dX0_find_4 2 rfl ?_
    refine gz_bipush K (v := (7 : Int32)) dX0_find_5 (by decide) ?_
    refine gz_icmp_le K 12 dX0_find_7 (by decide) (fun h => ?_) (fun h => ?_)
    · have hp := hp.1 h
      refine gz_aload_n K dX0_find_12 0 rfl ?_
      refine gz_aload_n K dX0_find_13 1 rfl ?_
      refine gz_callV K hex (c_X0_listWords K.2.2.2.2.2 K.2.2.1 h1 hp) cf_X0_listWords zq4_181 (by decide) (ce_9 _ _ _ _ _ _) rfl dX0_find_14 rfl rfl (Nat.le_of_ble_eq_true rfl) ⟨Nat.le_of_ble_eq_true rfl, Nat.le_of_ble_eq_true rfl⟩ ⟨Nat.le_of_ble_eq_true rfl, Nat.le_of_ble_eq_true rfl⟩ (Nat.le_of_ble_eq_true rfl) (Nat.le_of_ble_eq_true rfl) (fun _ _ h => h.elim) (fun _ τ14 hp => ?_)
      refine gz_norm (st' := []) (cells' := 0) (slots' := 0) rfl rfl rfl ?_
      refine gz_aload_n K dX0_find_17 0 rfl ?_
      refine gz_iconst K (v := (1 : Int32)) dX0_find_18 (by decide) ?_
      refine gz_iconst K (v := (1 : Int32)) dX0_find_19 (by decide) ?_
      refine gz_iload_n K dX0_find_20 2 rfl ?_
      refine gz_callV K hex (c_X0_findAmong K.2.2.2.2.2 K.2.2.1 hp) cf_X0_findAmong zq4_188 (by decide) (ce_9 _ _ _ _ _ _) rfl dX0_find_21 rfl rfl (Nat.le_of_ble_eq_true rfl) ⟨Nat.le_of_ble_eq_true rfl, Nat.le_of_ble_eq_true rfl⟩ ⟨Nat.le_of_ble_eq_true rfl, Nat.le_of_ble_eq_true rfl⟩ (Nat.le_of_ble_eq_true rfl) (Nat.le_of_ble_eq_true rfl) (fun _ _ h => h.elim) (fun r21 τ21 hp => ?_)
      refine gz_norm (st' := [.int r21]) (cells' := 0) (slots' := 0) rfl rfl rfl ?_
      refine gz_if_ne K 57 dX0_find_24 (by decide) (fun h => ?_) (fun h => ?_)
      · have hp := hp.1 h
        refine gz_sub [0, 3] rfl ?_
        exact bb_57 τ21  hp
      · have hp := hp.2 h
        refine gz_aload_n K dX0_find_27 0 rfl ?_
        refine gz_iconst K (v := (1 : Int32)) dX0_find_28 (by decide) ?_
        refine gz_iconst K (v := (2 : Int32)) dX0_find_29 (by decide) ?_
        refine gz_iload_n K dX0_find_30 2 rfl ?_
        refine gz_callV K hex (c_X0_findAmong K.2.2.2.2.2 K.2.2.1 hp) cf_X0_findAmong zq4_188 (by decide) (ce_9 _ _ _ _ _ _) rfl dX0_find_31 rfl rfl (Nat.le_of_ble_eq_true rfl) ⟨Nat.le_of_ble_eq_true rfl, Nat.le_of_ble_eq_true rfl⟩ ⟨Nat.le_of_ble_eq_true rfl, Nat.le_of_ble_eq_true rfl⟩ (Nat.le_of_ble_eq_true rfl) (Nat.le_of_ble_eq_true rfl) (fun _ _ h => h.elim) (fun r31 τ31 hp => ?_)
        refine gz_norm (st' := [.int r31]) (cells' := 0) (slots' := 0) rfl rfl rfl ?_
        refine gz_if_ne K 57 dX0_find_34 (by decide) (fun h => ?_) (fun h => ?_)
        · have hp := hp.1 h
          refine gz_sub [0, 3] rfl ?_
          exact bb_57 τ31  hp
        · have hp := hp.2 h
          refine gz_aload_n K dX0_find_37 0 rfl ?_
          refine gz_iconst K (v := (2 : Int32)) dX0_find_38 (by decide) ?_
          refine gz_iconst K (v := (1 : Int32)) dX0_find_39 (by decide) ?_
          refine gz_iload_n K dX0_find_40 2 rfl ?_
          refine gz_callV K hex (c_X0_findAmong K.2.2.2.2.2 K.2.2.1 hp) cf_X0_findAmong zq4_188 (by decide) (ce_9 _ _ _ _ _ _) rfl dX0_find_41 rfl rfl (Nat.le_of_ble_eq_true rfl) ⟨Nat.le_of_ble_eq_true rfl, Nat.le_of_ble_eq_true rfl⟩ ⟨Nat.le_of_ble_eq_true rfl, Nat.le_of_ble_eq_true rfl⟩ (Nat.le_of_ble_eq_true rfl) (Nat.le_of_ble_eq_true rfl) (fun _ _ h => h.elim) (fun r41 τ41 hp => ?_)
          refine gz_norm (st' := [.int r41]) (cells' := 0) (slots' := 0) rfl rfl rfl ?_
          refine gz_if_ne K 57 dX0_find_44 (by decide) (fun h => ?_) (fun h => ?_)
          · have hp := hp.1 h
            refine gz_sub [0, 3] rfl ?_
            exact bb_57 τ41  hp
          · have hp := hp.2 h
            refine gz_aload_n K dX0_find_47 0 rfl ?_
            refine gz_iconst K (v := (2 : Int32)) dX0_find_48 (by decide) ?_
            refine gz_iconst K (v := (2 : Int32)) dX0_find_49 (by decide) ?_
            refine gz_iload_n K dX0_find_50 2 rfl ?_
            refine gz_callV K hex (c_X0_findAmong K.2.2.2.2.2 K.2.2.1 hp) cf_X0_findAmong zq4_188 (by decide) (ce_9 _ _ _ _ _ _) rfl dX0_find_51 rfl rfl (Nat.le_of_ble_eq_true rfl) ⟨Nat.le_of_ble_eq_true rfl, Nat.le_of_ble_eq_true rfl⟩ ⟨Nat.le_of_ble_eq_true rfl, Nat.le_of_ble_eq_true rfl⟩ (Nat.le_of_ble_eq_true rfl) (Nat.le_of_ble_eq_true rfl) (fun _ _ h => h.elim) (fun r51 τ51 hp => ?_)
            refine gz_norm (st' := [.int r51]) (cells' := 0) (slots' := 0) rfl rfl rfl ?_
            refine gz_if_eq K 61 dX0_find_54 (by decide) (fun h => ?_) (fun h => ?_)
            · have hp := hp.1 h
              refine gz_iconst K (v := (0 : Int32)) dX0_find_61 (by decide) ?_
              refine gz_sub [0, 3] rfl ?_
              exact bb_62 τ51 (0 : Int32)  hp
            · have hp := hp.2 h
              refine gz_sub [0, 3] rfl ?_
              exact bb_57 τ51  hp
    · have hp := hp.2 h
      refine gz_iconst K (v := (0 : Int32)) dX0_find_10 (by decide) ?_
      exact gz_zret K hr (by decide) hp dX0_find_11 (Nat.le_of_ble_eq_true rfl) (Nat.le_of_ble_eq_true rfl)
set_option maxRecDepth 100000 in
set_option maxHeartbeats 4000000 in
theorem c_X5_length {l : Launch} {D : va_G} {ad : Nat → Nat} {ty : Nat → ClassId} (hl : l.stackTraces = false) (hj : ∀ i j, i < 68 → j < 68 → ad i = ad j → i = j) {σ : Dz} {post : Int32 → Prop} (hp : P_X5_length σ post) : Mz l D ad ty yX5_length cX5_length 1 (some .int) r_X5_length nI0 σ [.ref (ad 1)] (fun r τ => σ = τ ∧ post r) (fun _ _ => False) := by
  refine mz_of (by decide) hl hj (Nat.le_of_ble_eq_true rfl) ?_
  intro p e s m args below meth c K hex hr
  unfold P_X5_length at hp
  show Gz p l e r_X5_length s m args below meth c D ad ty 1 0 0 (Ez below D ad ty nI0 (fun r τ => σ = τ ∧ post r) (fun _ _ => False) args s 0 0) σ 0 [(0, .ref (ad 1))] []
  refine gz_aload_n K dX5_length_0 0 rfl ?_
  refine gz_get K (v := .int (gz_i σ 1 1)) (by decide) (ce_1 _ _ _ _ _ _) rfl inz_X5 1 (by decide) zq1_39 rfl dX5_length_1 ?_
  exact gz_iret K hr ⟨rfl, hp⟩ dX5_length_4 (Nat.le_of_ble_eq_true rfl) (Nat.le_of_ble_eq_true rfl)
set_option maxRecDepth 100000 in
set_option maxHeartbeats 4000000 in
theorem c_X5_at {l : Launch} {D : va_G} {ad : Nat → Nat} {ty : Nat → ClassId} (hl : l.stackTraces = false) (hj : ∀ i j, i < 68 → j < 68 → ad i = ad j → i = j) {σ : Dz} {x1 : Int32} {post : Int32 → Prop} (hp : P_X5_at σ x1 post) : Mz l D ad ty yX5_at cX5_at 2 (some .char) r_X5_at nI0 σ [.ref (ad 1), .int x1] (fun r τ => σ = τ ∧ post r) (fun _ _ => False) := by
  refine mz_of (by decide) hl hj (Nat.le_of_ble_eq_true rfl) ?_
  intro p e s m args below meth c K hex hr
  unfold P_X5_at at hp
  show Gz p l e r_X5_at s m args below meth c D ad ty 2 0 0 (Ez below D ad ty nI0 (fun r τ => σ = τ ∧ post r) (fun _ _ => False) args s 0 0) σ 0 [(0, .ref (ad 1)), (1, .int x1)] []
  refine gz_iload_n K dX5_at_0 1 rfl ?_
  refine gz_if_lt K 21 dX5_at_1 (by decide) (fun h => ?_) (fun h => ?_)
  · have hp := hp.1 h
    refine gz_iconst K (v := (0 : Int32)) dX5_at_21 (by decide) ?_
    exact gz_zret K hr hp.1 ⟨rfl, hp.2⟩ dX5_at_22 (Nat.le_of_ble_eq_true rfl) (Nat.le_of_ble_eq_true rfl)
  · have hp := hp.2 h
    refine gz_iload_n K dX5_at_4 1 rfl ?_
    refine gz_aload_n K dX5_at_5 0 rfl ?_
    refine gz_get K (v := .int (gz_i σ 1 1)) (by decide) (ce_1 _ _ _ _ _ _) rfl inz_X5 1 (by decide) zq1_39 rfl dX5_at_6 ?_
    refine gz_icmp_ge K 21 dX5_at_9 (by decide) (fun h => ?_) (fun h => ?_)
    · have hp := hp.1 h
      refine gz_iconst K (v := (0 : Int32)) dX5_at_21 (by decide) ?_
      exact gz_zret K hr hp.1 ⟨rfl, hp.2⟩ dX5_at_22 (Nat.le_of_ble_eq_true rfl) (Nat.le_of_ble_eq_true rfl)
    · have hp := hp.2 h
      refine gz_aload_n K dX5_at_12 0 rfl ?_
      refine gz_get K (v := .ref (ad 2)) (by decide) (ce_1 _ _ _ _ _ _) rfl inz_X5 0 (by decide) zq1_38 rfl dX5_at_13 ?_
      refine gz_iload_n K dX5_at_16 1 rfl ?_
      obtain ⟨h, hp⟩ := hp
      refine gz_cald K (by decide) (ce_2 _ _ _ _ _ _) h dX5_at_17 ?_
      refine gz_goto K 22 dX5_at_18 (by decide) ?_
      exact gz_zret K hr hp.1 ⟨rfl, hp.2⟩ dX5_at_22 (Nat.le_of_ble_eq_true rfl) (Nat.le_of_ble_eq_true rfl)
set_option maxRecDepth 100000 in
set_option maxHeartbeats 4000000 in
theorem c_X3_withImage {l : Launch} {D : va_G} {ad : Nat → Nat} {ty : Nat → ClassId} (hl : l.stackTraces = false) (hj : ∀ i j, i < 68 → j < 68 → ad i = ad j → i = j) {σ : Dz} {x0 : Int32} {x1 : Int32} {x2 : Int32} {post : Int32 → Prop} (hp : P_X3_withImage x0 x1 x2 post) : Mz l D ad ty yX3_withImage cX3_withImage 3 (some .int) r_X3_withImage nI0 σ [.int x0, .int x1, .int x2] (fun r τ => σ = τ ∧ post r) (fun _ _ => False) := by
  refine mz_of (by decide) hl hj (Nat.le_of_ble_eq_true rfl) ?_
  intro p e s m args below meth c K hex hr
  unfold P_X3_withImage at hp
  show Gz p l e r_X3_withImage s m args below meth c D ad ty 3 0 0 (Ez below D ad ty nI0 (fun r τ => σ = τ ∧ post r) (fun _ _ => False) args s 0 0) σ 0 [(0, .int x0), (1, .int x1), (2, .int x2)] []
  refine gz_iload_n K dX3_withImage_0 0 rfl ?_
  refine gz_bipush K (v := (7 : Int32)) dX3_withImage_1 (by decide) ?_
  refine gz_iconst K (v := (3 : Int32)) dX3_withImage_3 (by decide) ?_
  refine gz_iload_n K dX3_withImage_4 1 rfl ?_
  refine gz_imul K dX3_withImage_5 ?_
  refine gz_ishl K dX3_withImage_6 ?_
  refine gz_iconst K (v := (-1 : Int32)) dX3_withImage_7 (by decide) ?_
  refine gz_ixor K dX3_withImage_8 ?_
  refine gz_iand K dX3_withImage_9 ?_
  refine gz_iload_n K dX3_withImage_10 2 rfl ?_
  refine gz_iconst K (v := (3 : Int32)) dX3_withImage_11 (by decide) ?_
  refine gz_iload_n K dX3_withImage_12 1 rfl ?_
  refine gz_imul K dX3_withImage_13 ?_
  refine gz_ishl K dX3_withImage_14 ?_
  refine gz_ior K dX3_withImage_15 ?_
  exact gz_iret K hr ⟨rfl, hp⟩ dX3_withImage_16 (Nat.le_of_ble_eq_true rfl) (Nat.le_of_ble_eq_true rfl)
set_option maxRecDepth 100000 in
set_option maxHeartbeats 4000000 in
theorem c_X1_acceptsPosition {l : Launch} {D : va_G} {ad : Nat → Nat} {ty : Nat → ClassId} (hl : l.stackTraces = false) (hj : ∀ i j, i < 68 → j < 68 → ad i = ad j → i = j) {σ : Dz} {x1 : Int32} {x2 : Int32} {post : Int32 → Dz → Prop} (hp : P_X1_acceptsPosition σ x1 x2 post) : Mz l D ad ty yX1_acceptsPosition cX1_acceptsPosition 3 (some .boolean) r_X1_acceptsPosition nI0 σ [.ref (ad 3), .int x1, .int x2] post (fun _ _ => False) := by
  refine mz_of (by decide) hl hj (Nat.le_of_ble_eq_true rfl) ?_
  intro p e s m args below meth c K hex hr
  unfold P_X1_acceptsPosition at hp
  have bb_66 : ∀ (σ : Dz) (y1 : Int32) , B_X1_acceptsPosition_66 post  σ y1 → Gz p l e r_X1_acceptsPosition s m args below meth c D ad ty 3 0 0 (Ez below D ad ty nI0 post (fun _ _ => False) args s 0 0) σ 66 [(0, .ref (ad 3)), (1, .int y1)] [] := by
    intro σ y1 hp
    unfold B_X1_acceptsPosition_66 at hp
    refine gz_aload_n K dX1_acceptsPosition_66 0 rfl ?_
    refine gz_iload_n K dX1_acceptsPosition_67 1 rfl ?_
    refine gz_put K (x := y1) (by decide) (ce_3 _ _ _ _ _ _) rfl inz_X1 tyX1 tyX1_ok nmX1 4 (by decide) zq1_57 rfl (tyX1_ok _ (by decide)) rfl rfl (Nat.le_of_ble_eq_true rfl) peX1_4 dX1_acceptsPosition_68 ?_
    refine gz_aload_n K dX1_acceptsPosition_71 0 rfl ?_
    refine gz_dup K dX1_acceptsPosition_72 rfl ?_
    refine gz_get K (v := .int (gz_i (sz_i σ 3 4 y1) 3 2)) (by decide) (ce_3 _ _ _ _ _ _) rfl inz_X1 2 (by decide) zq1_55 rfl dX1_acceptsPosition_73 ?_
    refine gz_iconst K (v := (1 : Int32)) dX1_acceptsPosition_76 (by decide) ?_
    refine gz_iadd K dX1_acceptsPosition_77 ?_
    refine gz_put K (x := ((gz_i (sz_i σ 3 4 y1) 3 2) + (1 : Int32))) (by decide) (ce_3 _ _ _ _ _ _) rfl inz_X1 tyX1 tyX1_ok nmX1 2 (by decide) zq1_55 rfl (tyX1_ok _ (by decide)) rfl rfl (Nat.le_of_ble_eq_true rfl) peX1_2 dX1_acceptsPosition_78 ?_
    refine gz_iconst K (v := (1 : Int32)) dX1_acceptsPosition_81 (by decide) ?_
    exact gz_zret K hr (by decide) hp dX1_acceptsPosition_82 (Nat.le_of_ble_eq_true rfl) (Nat.le_of_ble_eq_true rfl)
  show Gz p l e r_X1_acceptsPosition s m args below meth c D ad ty 3 0 0 (Ez below D ad ty nI0 post (fun _ _ => False) args s 0 0) σ 0 [(0, .ref (ad 3)), (1, .int x1), (2, .int x2)] []
  refine gz_iload_n K dX1_acceptsPosition_0 1 rfl ?_
  refine gz_if_lt K 21 dX1_acceptsPosition_1 (by decide) (fun h => ?_) (fun h => ?_)
  · have hp := hp.1 h
    refine gz_iconst K (v := (0 : Int32)) dX1_acceptsPosition_21 (by decide) ?_
    exact gz_zret K hr (by decide) hp dX1_acceptsPosition_22 (Nat.le_of_ble_eq_true rfl) (Nat.le_of_ble_eq_true rfl)
  · have hp := hp.2 h
    refine gz_iload_n K dX1_acceptsPosition_4 1 rfl ?_
    refine gz_iload_n K dX1_acceptsPosition_5 2 rfl ?_
    refine gz_icmp_ge K 21 dX1_acceptsPosition_6 (by decide) (fun h => ?_) (fun h => ?_)
    · have hp := hp.1 h
      refine gz_iconst K (v := (0 : Int32)) dX1_acceptsPosition_21 (by decide) ?_
      exact gz_zret K hr (by decide) hp dX1_acceptsPosition_22 (Nat.le_of_ble_eq_true rfl) (Nat.le_of_ble_eq_true rfl)
    · have hp := hp.2 h
      refine gz_aload_n K dX1_acceptsPosition_9 0 rfl ?_
      refine gz_get K (v := .int (gz_i σ 3 1)) (by decide) (ce_3 _ _ _ _ _ _) rfl inz_X1 1 (by decide) zq1_54 rfl dX1_acceptsPosition_10 ?_
      refine gz_iload_n K dX1_acceptsPosition_13 1 rfl ?_
      refine gz_iushr K dX1_acceptsPosition_14 ?_
      refine gz_iconst K (v := (1 : Int32)) dX1_acceptsPosition_15 (by decide) ?_
      refine gz_iand K dX1_acceptsPosition_16 ?_
      refine gz_iconst K (v := (1 : Int32)) dX1_acceptsPosition_17 (by decide) ?_
      refine gz_icmp_ne K 23 dX1_acceptsPosition_18 (by decide) (fun h => ?_) (fun h => ?_)
      · have hp := hp.1 h
        refine gz_aload_n K dX1_acceptsPosition_23 0 rfl ?_
        refine gz_dup K dX1_acceptsPosition_24 rfl ?_
        refine gz_get K (v := .int (gz_i σ 3 1)) (by decide) (ce_3 _ _ _ _ _ _) rfl inz_X1 1 (by decide) zq1_54 rfl dX1_acceptsPosition_25 ?_
        refine gz_iconst K (v := (1 : Int32)) dX1_acceptsPosition_28 (by decide) ?_
        refine gz_iload_n K dX1_acceptsPosition_29 1 rfl ?_
        refine gz_ishl K dX1_acceptsPosition_30 ?_
        refine gz_ior K dX1_acceptsPosition_31 ?_
        refine gz_put K (x := ((gz_i σ 3 1) ||| ((1 : Int32) <<< (x1 &&& 31)))) (by decide) (ce_3 _ _ _ _ _ _) rfl inz_X1 tyX1 tyX1_ok nmX1 1 (by decide) zq1_54 rfl (tyX1_ok _ (by decide)) rfl rfl (Nat.le_of_ble_eq_true rfl) peX1_1 dX1_acceptsPosition_32 ?_
        refine gz_aload_n K dX1_acceptsPosition_35 0 rfl ?_
        refine gz_get K (v := .int (gz_i (sz_i σ 3 1 ((gz_i σ 3 1) ||| ((1 : Int32) <<< (x1 &&& 31)))) 3 2)) (by decide) (ce_3 _ _ _ _ _ _) rfl inz_X1 2 (by decide) zq1_55 rfl dX1_acceptsPosition_36 ?_
        refine gz_if_ne K 50 dX1_acceptsPosition_39 (by decide) (fun h => ?_) (fun h => ?_)
        · have hp := hp.1 h
          refine gz_aload_n K dX1_acceptsPosition_50 0 rfl ?_
          refine gz_aload_n K dX1_acceptsPosition_51 0 rfl ?_
          refine gz_get K (v := .int (gz_i (sz_i σ 3 1 ((gz_i σ 3 1) ||| ((1 : Int32) <<< (x1 &&& 31)))) 3 0)) (by decide) (ce_3 _ _ _ _ _ _) rfl inz_X1 0 (by decide) zq1_53 rfl dX1_acceptsPosition_52 ?_
          refine gz_aload_n K dX1_acceptsPosition_55 0 rfl ?_
          refine gz_get K (v := .int (gz_i (sz_i σ 3 1 ((gz_i σ 3 1) ||| ((1 : Int32) <<< (x1 &&& 31)))) 3 4)) (by decide) (ce_3 _ _ _ _ _ _) rfl inz_X1 4 (by decide) zq1_57 rfl dX1_acceptsPosition_56 ?_
          refine gz_iload_n K dX1_acceptsPosition_59 1 rfl ?_
          refine gz_callS K hex (c_X3_withImage K.2.2.2.2.2 K.2.2.1 hp) cf_X3_withImage zq3_56 dX1_acceptsPosition_60 rfl rfl (Nat.le_of_ble_eq_true rfl) ⟨Nat.le_of_ble_eq_true rfl, Nat.le_of_ble_eq_true rfl⟩ ⟨Nat.le_of_ble_eq_true rfl, Nat.le_of_ble_eq_true rfl⟩ (Nat.le_of_ble_eq_true rfl) (Nat.le_of_ble_eq_true rfl) (fun _ _ h => h.elim) (fun r60 τ hp => ?_)
          obtain ⟨rfl, hp⟩ := hp
          refine gz_norm (st' := [.int r60, .ref (ad 3)]) (cells' := 0) (slots' := 0) rfl rfl rfl ?_
          refine gz_put K (x := r60) (by decide) (ce_3 _ _ _ _ _ _) rfl inz_X1 tyX1 tyX1_ok nmX1 0 (by decide) zq1_53 rfl (tyX1_ok _ (by decide)) rfl rfl (Nat.le_of_ble_eq_true rfl) peX1_0 dX1_acceptsPosition_63 ?_
          refine gz_sub [0, 1] rfl ?_
          exact bb_66 (sz_i (sz_i σ 3 1 ((gz_i σ 3 1) ||| ((1 : Int32) <<< (x1 &&& 31)))) 3 0 r60) x1  hp
        · have hp := hp.2 h
          refine gz_aload_n K dX1_acceptsPosition_42 0 rfl ?_
          refine gz_iload_n K dX1_acceptsPosition_43 1 rfl ?_
          refine gz_put K (x := x1) (by decide) (ce_3 _ _ _ _ _ _) rfl inz_X1 tyX1 tyX1_ok nmX1 3 (by decide) zq1_56 rfl (tyX1_ok _ (by decide)) rfl rfl (Nat.le_of_ble_eq_true rfl) peX1_3 dX1_acceptsPosition_44 ?_
          refine gz_goto K 66 dX1_acceptsPosition_47 (by decide) ?_
          refine gz_sub [0, 1] rfl ?_
          exact bb_66 (sz_i (sz_i σ 3 1 ((gz_i σ 3 1) ||| ((1 : Int32) <<< (x1 &&& 31)))) 3 3 x1) x1  hp
      · have hp := hp.2 h
        refine gz_iconst K (v := (0 : Int32)) dX1_acceptsPosition_21 (by decide) ?_
        exact gz_zret K hr (by decide) hp dX1_acceptsPosition_22 (Nat.le_of_ble_eq_true rfl) (Nat.le_of_ble_eq_true rfl)
set_option maxRecDepth 100000 in
set_option maxHeartbeats 4000000 in
theorem c_X1_accepts {l : Launch} {D : va_G} {ad : Nat → Nat} {ty : Nat → ClassId} (hl : l.stackTraces = false) (hj : ∀ i j, i < 68 → j < 68 → ad i = ad j → i = j) {σ : Dz} {x1 : Int32} {x2 : Int32} {post : Int32 → Dz → Prop} (hp : P_X1_accepts σ x1 x2 post) : Mz l D ad ty yX1_accepts cX1_accepts 3 (some .boolean) r_X1_accepts nI0 σ [.ref (ad 3), .int x1, .int x2] post (fun _ _ => False) := by
  refine mz_of (by decide) hl hj (Nat.le_of_ble_eq_true rfl) ?_
  intro p e s m args below meth c K hex hr
  unfold P_X1_accepts at hp
  show Gz p l e r_X1_accepts s m args below meth c D ad ty 3 0 0 (Ez below D ad ty nI0 post (fun _ _ => False) args s 0 0) σ 0 [(0, .ref (ad 3)), (1, .int x1), (2, .int x2)] []
  refine gz_aload_n K dX1_accepts_0 0 rfl ?_
  refine gz_get K (v := .int (gz_i σ 3 5)) (by decide) (ce_3 _ _ _ _ _ _) rfl inz_X1 5 (by decide) zq1_58 rfl dX1_accepts_1 ?_
  refine gz_if_ne K 29 dX1_accepts_4 (by decide) (fun h => ?_) (fun h => ?_)
  · have hp := hp.1 h
    refine gz_iload_n K dX1_accepts_29 1 rfl ?_
    refine gz_bipush K (v := (41 : Int32)) dX1_accepts_30 (by decide) ?_
    refine gz_icmp_ne K 73 dX1_accepts_32 (by decide) (fun h => ?_) (fun h => ?_)
    · have hp := hp.1 h
      refine gz_aload_n K dX1_accepts_73 0 rfl ?_
      refine gz_iload_n K dX1_accepts_74 1 rfl ?_
      refine gz_bipush K (v := (49 : Int32)) dX1_accepts_75 (by decide) ?_
      refine gz_isub K dX1_accepts_77 ?_
      refine gz_iload_n K dX1_accepts_78 2 rfl ?_
      refine gz_callV K hex (c_X1_acceptsPosition K.2.2.2.2.2 K.2.2.1 hp) cf_X1_acceptsPosition zq3_59 (by decide) (ce_3 _ _ _ _ _ _) rfl dX1_accepts_79 rfl rfl (Nat.le_of_ble_eq_true rfl) ⟨Nat.le_of_ble_eq_true rfl, Nat.le_of_ble_eq_true rfl⟩ ⟨Nat.le_of_ble_eq_true rfl, Nat.le_of_ble_eq_true rfl⟩ (Nat.le_of_ble_eq_true rfl) (Nat.le_of_ble_eq_true rfl) (fun _ _ h => h.elim) (fun r79 τ79 hp => ?_)
      refine gz_norm (st' := [.int r79]) (cells' := 0) (slots' := 0) rfl rfl rfl ?_
      exact gz_zret K hr (nB hp.1) hp.2 dX1_accepts_82 (Nat.le_of_ble_eq_true rfl) (Nat.le_of_ble_eq_true rfl)
    · have hp := hp.2 h
      refine gz_aload_n K dX1_accepts_35 0 rfl ?_
      refine gz_iconst K (v := (0 : Int32)) dX1_accepts_36 (by decide) ?_
      refine gz_put K (x := (0 : Int32)) (by decide) (ce_3 _ _ _ _ _ _) rfl inz_X1 tyX1 tyX1_ok nmX1 5 (by decide) zq1_58 rfl (tyX1_ok _ (by decide)) rfl rfl (Nat.le_of_ble_eq_true rfl) peX1_5 dX1_accepts_37 ?_
      refine gz_aload_n K dX1_accepts_40 0 rfl ?_
      refine gz_aload_n K dX1_accepts_41 0 rfl ?_
      refine gz_get K (v := .int (gz_i (sz_i σ 3 5 (0 : Int32)) 3 0)) (by decide) (ce_3 _ _ _ _ _ _) rfl inz_X1 0 (by decide) zq1_53 rfl dX1_accepts_42 ?_
      refine gz_aload_n K dX1_accepts_45 0 rfl ?_
      refine gz_get K (v := .int (gz_i (sz_i σ 3 5 (0 : Int32)) 3 4)) (by decide) (ce_3 _ _ _ _ _ _) rfl inz_X1 4 (by decide) zq1_57 rfl dX1_accepts_46 ?_
      refine gz_aload_n K dX1_accepts_49 0 rfl ?_
      refine gz_get K (v := .int (gz_i (sz_i σ 3 5 (0 : Int32)) 3 3)) (by decide) (ce_3 _ _ _ _ _ _) rfl inz_X1 3 (by decide) zq1_56 rfl dX1_accepts_50 ?_
      refine gz_callS K hex (c_X3_withImage K.2.2.2.2.2 K.2.2.1 hp) cf_X3_withImage zq3_56 dX1_accepts_53 rfl rfl (Nat.le_of_ble_eq_true rfl) ⟨Nat.le_of_ble_eq_true rfl, Nat.le_of_ble_eq_true rfl⟩ ⟨Nat.le_of_ble_eq_true rfl, Nat.le_of_ble_eq_true rfl⟩ (Nat.le_of_ble_eq_true rfl) (Nat.le_of_ble_eq_true rfl) (fun _ _ h => h.elim) (fun r53 τ hp => ?_)
      obtain ⟨rfl, hp⟩ := hp
      refine gz_norm (st' := [.int r53, .ref (ad 3)]) (cells' := 0) (slots' := 0) rfl rfl rfl ?_
      refine gz_put K (x := r53) (by decide) (ce_3 _ _ _ _ _ _) rfl inz_X1 tyX1 tyX1_ok nmX1 0 (by decide) zq1_53 rfl (tyX1_ok _ (by decide)) rfl rfl (Nat.le_of_ble_eq_true rfl) peX1_0 dX1_accepts_56 ?_
      refine gz_aload_n K dX1_accepts_59 0 rfl ?_
      refine gz_get K (v := .int (gz_i (sz_i (sz_i σ 3 5 (0 : Int32)) 3 0 r53) 3 2)) (by decide) (ce_3 _ _ _ _ _ _) rfl inz_X1 2 (by decide) zq1_55 rfl dX1_accepts_60 ?_
      refine gz_iconst K (v := (2 : Int32)) dX1_accepts_63 (by decide) ?_
      refine gz_icmp_lt K 71 dX1_accepts_64 (by decide) (fun h => ?_) (fun h => ?_)
      · have hp := hp.1 h
        refine gz_iconst K (v := (0 : Int32)) dX1_accepts_71 (by decide) ?_
        exact gz_zret K hr (by decide) hp dX1_accepts_72 (Nat.le_of_ble_eq_true rfl) (Nat.le_of_ble_eq_true rfl)
      · have hp := hp.2 h
        refine gz_iconst K (v := (1 : Int32)) dX1_accepts_67 (by decide) ?_
        refine gz_goto K 72 dX1_accepts_68 (by decide) ?_
        exact gz_zret K hr (by decide) hp dX1_accepts_72 (Nat.le_of_ble_eq_true rfl) (Nat.le_of_ble_eq_true rfl)
  · have hp := hp.2 h
    refine gz_aload_n K dX1_accepts_7 0 rfl ?_
    refine gz_iconst K (v := (1 : Int32)) dX1_accepts_8 (by decide) ?_
    refine gz_put K (x := (1 : Int32)) (by decide) (ce_3 _ _ _ _ _ _) rfl inz_X1 tyX1 tyX1_ok nmX1 5 (by decide) zq1_58 rfl (tyX1_ok _ (by decide)) rfl rfl (Nat.le_of_ble_eq_true rfl) peX1_5 dX1_accepts_9 ?_
    refine gz_aload_n K dX1_accepts_12 0 rfl ?_
    refine gz_iconst K (v := (0 : Int32)) dX1_accepts_13 (by decide) ?_
    refine gz_put K (x := (0 : Int32)) (by decide) (ce_3 _ _ _ _ _ _) rfl inz_X1 tyX1 tyX1_ok nmX1 2 (by decide) zq1_55 rfl (tyX1_ok _ (by decide)) rfl rfl (Nat.le_of_ble_eq_true rfl) peX1_2 dX1_accepts_14 ?_
    refine gz_iload_n K dX1_accepts_17 1 rfl ?_
    refine gz_bipush K (v := (40 : Int32)) dX1_accepts_18 (by decide) ?_
    refine gz_icmp_ne K 27 dX1_accepts_20 (by decide) (fun h => ?_) (fun h => ?_)
    · have hp := hp.1 h
      refine gz_iconst K (v := (0 : Int32)) dX1_accepts_27 (by decide) ?_
      exact gz_zret K hr (by decide) hp dX1_accepts_28 (Nat.le_of_ble_eq_true rfl) (Nat.le_of_ble_eq_true rfl)
    · have hp := hp.2 h
      refine gz_iconst K (v := (1 : Int32)) dX1_accepts_23 (by decide) ?_
      refine gz_goto K 28 dX1_accepts_24 (by decide) ?_
      exact gz_zret K hr (by decide) hp dX1_accepts_28 (Nat.le_of_ble_eq_true rfl) (Nat.le_of_ble_eq_true rfl)
set_option maxRecDepth 100000 in
set_option maxHeartbeats 4000000 in
theorem c_X1_errorIn {l : Launch} {D : va_G} {ad : Nat → Nat} {ty : Nat → ClassId} (hl : l.stackTraces = false) (hj : ∀ i j, i < 68 → j < 68 → ad i = ad j → i = j) {σ : Dz} {x2 : Int32} {post : Int32 → Dz → Prop} (hp : P_X1_errorIn σ x2 post) : Mz l D ad ty yX1_errorIn cX1_errorIn 4 (some .int) r_X1_errorIn nI0 σ [.ref (ad 3), .ref (ad 1), .int x2] post (fun _ _ => False) := by
  refine mz_of (by decide) hl hj (Nat.le_of_ble_eq_true rfl) ?_
  intro p e s m args below meth c K hex hr
  unfold P_X1_errorIn at hp
  show Gz p l e r_X1_errorIn s m args below meth c D ad ty 4 0 0 (Ez below D ad ty nI0 post (fun _ _ => False) args s 0 0) σ 0 [(0, .ref (ad 3)), (1, .ref (ad 1)), (2, .int x2)] []
  refine gz_aload_n K dX1_errorIn_0 0 rfl ?_
  refine gz_ldc K zq1_52 dX1_errorIn_1 ?_
  refine gz_put K (x := (1754760 : Int32)) (by decide) (ce_3 _ _ _ _ _ _) rfl inz_X1 tyX1 tyX1_ok nmX1 0 (by decide) zq1_53 rfl (tyX1_ok _ (by decide)) rfl rfl (Nat.le_of_ble_eq_true rfl) peX1_0 dX1_errorIn_3 ?_
  refine gz_aload_n K dX1_errorIn_6 0 rfl ?_
  refine gz_iconst K (v := (0 : Int32)) dX1_errorIn_7 (by decide) ?_
  refine gz_put K (x := (0 : Int32)) (by decide) (ce_3 _ _ _ _ _ _) rfl inz_X1 tyX1 tyX1_ok nmX1 1 (by decide) zq1_54 rfl (tyX1_ok _ (by decide)) rfl rfl (Nat.le_of_ble_eq_true rfl) peX1_1 dX1_errorIn_8 ?_
  refine gz_aload_n K dX1_errorIn_11 0 rfl ?_
  refine gz_iconst K (v := (0 : Int32)) dX1_errorIn_12 (by decide) ?_
  refine gz_put K (x := (0 : Int32)) (by decide) (ce_3 _ _ _ _ _ _) rfl inz_X1 tyX1 tyX1_ok nmX1 5 (by decide) zq1_58 rfl (tyX1_ok _ (by decide)) rfl rfl (Nat.le_of_ble_eq_true rfl) peX1_5 dX1_errorIn_13 ?_
  refine gz_iconst K (v := (0 : Int32)) dX1_errorIn_16 (by decide) ?_
  refine gz_istore_n K [(3, .int (0 : Int32)), (0, .ref (ad 3)), (1, .ref (ad 1)), (2, .int x2)] dX1_errorIn_17 (by decide) rfl ?_
  refine gz_sub [1, 2, 3, 0] rfl ?_
  have ll_18 : ∀ (n_18 : Nat) (σ : Dz) (y2 : Int32) (y3 : Int32) , L_X1_errorIn_18 post  n_18 σ y2 y3 → Gz p l e r_X1_errorIn s m args below meth c D ad ty 4 0 0 (Ez below D ad ty nI0 post (fun _ _ => False) args s 0 0) σ 18 [(0, .ref (ad 3)), (1, .ref (ad 1)), (2, .int y2), (3, .int y3)] [] := by
    intro n_18; induction n_18 with
    | zero => intro σ y2 y3 hp; exact False.elim hp
    | succ n_18 ih_18 =>
      intro σ y2 y3 hp
      have hp : B_X1_errorIn_18 post  (L_X1_errorIn_18 post  n_18) σ y2 y3 := hp
      unfold B_X1_errorIn_18 at hp
      refine gz_iload_n K dX1_errorIn_18 3 rfl ?_
      refine gz_aload_n K dX1_errorIn_19 1 rfl ?_
      refine gz_callV K hex (c_X5_length K.2.2.2.2.2 K.2.2.1 hp) cf_X5_length zq3_47 (by decide) (ce_1 _ _ _ _ _ _) rfl dX1_errorIn_20 rfl rfl (Nat.le_of_ble_eq_true rfl) ⟨Nat.le_of_ble_eq_true rfl, Nat.le_of_ble_eq_true rfl⟩ ⟨Nat.le_of_ble_eq_true rfl, Nat.le_of_ble_eq_true rfl⟩ (Nat.le_of_ble_eq_true rfl) (Nat.le_of_ble_eq_true rfl) (fun _ _ h => h.elim) (fun r20 τ hp => ?_)
      obtain ⟨rfl, hp⟩ := hp
      refine gz_norm (st' := [.int r20, .int y3]) (cells' := 0) (slots' := 0) rfl rfl rfl ?_
      refine gz_icmp_ge K 47 dX1_errorIn_23 (by decide) (fun h => ?_) (fun h => ?_)
      · have hp := hp.1 h
        refine gz_aload_n K dX1_errorIn_47 0 rfl ?_
        refine gz_get K (v := .int (gz_i σ 3 5)) (by decide) (ce_3 _ _ _ _ _ _) rfl inz_X1 5 (by decide) zq1_58 rfl dX1_errorIn_48 ?_
        refine gz_if_eq K 61 dX1_errorIn_51 (by decide) (fun h => ?_) (fun h => ?_)
        · have hp := hp.1 h
          refine gz_iconst K (v := (-1 : Int32)) dX1_errorIn_61 (by decide) ?_
          exact gz_iret K hr hp dX1_errorIn_62 (Nat.le_of_ble_eq_true rfl) (Nat.le_of_ble_eq_true rfl)
        · have hp := hp.2 h
          refine gz_aload_n K dX1_errorIn_54 1 rfl ?_
          refine gz_callV K hex (c_X5_length K.2.2.2.2.2 K.2.2.1 hp) cf_X5_length zq3_47 (by decide) (ce_1 _ _ _ _ _ _) rfl dX1_errorIn_55 rfl rfl (Nat.le_of_ble_eq_true rfl) ⟨Nat.le_of_ble_eq_true rfl, Nat.le_of_ble_eq_true rfl⟩ ⟨Nat.le_of_ble_eq_true rfl, Nat.le_of_ble_eq_true rfl⟩ (Nat.le_of_ble_eq_true rfl) (Nat.le_of_ble_eq_true rfl) (fun _ _ h => h.elim) (fun r55 τ hp => ?_)
          obtain ⟨rfl, hp⟩ := hp
          refine gz_norm (st' := [.int r55]) (cells' := 0) (slots' := 0) rfl rfl rfl ?_
          refine gz_goto K 62 dX1_errorIn_58 (by decide) ?_
          exact gz_iret K hr hp dX1_errorIn_62 (Nat.le_of_ble_eq_true rfl) (Nat.le_of_ble_eq_true rfl)
      · have hp := hp.2 h
        refine gz_aload_n K dX1_errorIn_26 0 rfl ?_
        refine gz_aload_n K dX1_errorIn_27 1 rfl ?_
        refine gz_iload_n K dX1_errorIn_28 3 rfl ?_
        refine gz_callV K hex (c_X5_at K.2.2.2.2.2 K.2.2.1 hp) cf_X5_at zq3_48 (by decide) (ce_1 _ _ _ _ _ _) rfl dX1_errorIn_29 rfl rfl (Nat.le_of_ble_eq_true rfl) ⟨Nat.le_of_ble_eq_true rfl, Nat.le_of_ble_eq_true rfl⟩ ⟨Nat.le_of_ble_eq_true rfl, Nat.le_of_ble_eq_true rfl⟩ (Nat.le_of_ble_eq_true rfl) (Nat.le_of_ble_eq_true rfl) (fun _ _ h => h.elim) (fun r29 τ hp => ?_)
        obtain ⟨rfl, hp⟩ := hp
        refine gz_norm (st' := [.int r29, .ref (ad 3)]) (cells' := 0) (slots' := 0) rfl rfl rfl ?_
        refine gz_iload_n K dX1_errorIn_32 2 rfl ?_
        refine gz_callV K hex (c_X1_accepts K.2.2.2.2.2 K.2.2.1 hp) cf_X1_accepts zq3_52 (by decide) (ce_3 _ _ _ _ _ _) rfl dX1_errorIn_33 rfl rfl (Nat.le_of_ble_eq_true rfl) ⟨Nat.le_of_ble_eq_true rfl, Nat.le_of_ble_eq_true rfl⟩ ⟨Nat.le_of_ble_eq_true rfl, Nat.le_of_ble_eq_true rfl⟩ (Nat.le_of_ble_eq_true rfl) (Nat.le_of_ble_eq_true rfl) (fun _ _ h => h.elim) (fun r33 τ33 hp => ?_)
        refine gz_norm (st' := [.int r33]) (cells' := 0) (slots' := 0) rfl rfl rfl ?_
        refine gz_if_ne K 41 dX1_errorIn_36 (by decide) (fun h => ?_) (fun h => ?_)
        · have hp := hp.1 h
          refine gz_iinc K (v := (y3 + 1)) [(3, .int (y3 + 1)), (0, .ref (ad 3)), (1, .ref (ad 1)), (2, .int y2)] dX1_errorIn_41 3 rfl (by first | rfl | decide) (by decide) rfl ?_
          refine gz_goto K 18 dX1_errorIn_44 (by decide) ?_
          refine gz_sub [1, 2, 3, 0] rfl ?_
          exact ih_18 τ33 y2 (y3 + 1)  hp
        · have hp := hp.2 h
          refine gz_iload_n K dX1_errorIn_39 3 rfl ?_
          exact gz_iret K hr hp dX1_errorIn_40 (Nat.le_of_ble_eq_true rfl) (Nat.le_of_ble_eq_true rfl)
  obtain ⟨n, hp⟩ := hp
  exact ll_18 n (sz_i (sz_i (sz_i σ 3 0 (1754760 : Int32)) 3 1 (0 : Int32)) 3 5 (0 : Int32)) x2 (0 : Int32)  hp
set_option maxRecDepth 100000 in
set_option maxHeartbeats 4000000 in
theorem c_X1_effect {l : Launch} {D : va_G} {ad : Nat → Nat} {ty : Nat → ClassId} (hl : l.stackTraces = false) (hj : ∀ i j, i < 68 → j < 68 → ad i = ad j → i = j) {σ : Dz} {post : Int32 → Prop} (hp : P_X1_effect σ post) : Mz l D ad ty yX1_effect cX1_effect 1 (some .int) r_X1_effect nI0 σ [.ref (ad 3)] (fun r τ => σ = τ ∧ post r) (fun _ _ => False) := by
  refine mz_of (by decide) hl hj (Nat.le_of_ble_eq_true rfl) ?_
  intro p e s m args below meth c K hex hr
  unfold P_X1_effect at hp
  show Gz p l e r_X1_effect s m args below meth c D ad ty 1 0 0 (Ez below D ad ty nI0 (fun r τ => σ = τ ∧ post r) (fun _ _ => False) args s 0 0) σ 0 [(0, .ref (ad 3))] []
  refine gz_aload_n K dX1_effect_0 0 rfl ?_
  refine gz_get K (v := .int (gz_i σ 3 0)) (by decide) (ce_3 _ _ _ _ _ _) rfl inz_X1 0 (by decide) zq1_53 rfl dX1_effect_1 ?_
  exact gz_iret K hr ⟨rfl, hp⟩ dX1_effect_4 (Nat.le_of_ble_eq_true rfl) (Nat.le_of_ble_eq_true rfl)
set_option maxRecDepth 100000 in
set_option maxHeartbeats 4000000 in
theorem c_X2_isListed {l : Launch} {D : va_G} {ad : Nat → Nat} {ty : Nat → ClassId} (hl : l.stackTraces = false) (hj : ∀ i j, i < 68 → j < 68 → ad i = ad j → i = j) {σ : Dz} {x1 : Int32} {post : Int32 → Prop} (hp : P_X2_isListed σ x1 post) : Mz l D ad ty yX2_isListed cX2_isListed 3 (some .boolean) r_X2_isListed nI0 σ [.ref (ad 12), .int x1] (fun r τ => σ = τ ∧ post r) (fun _ _ => False) := by
  refine mz_of (by decide) hl hj (Nat.le_of_ble_eq_true rfl) ?_
  intro p e s m args below meth c K hex hr
  unfold P_X2_isListed at hp
  show Gz p l e r_X2_isListed s m args below meth c D ad ty 3 0 0 (Ez below D ad ty nI0 (fun r τ => σ = τ ∧ post r) (fun _ _ => False) args s 0 0) σ 0 [(0, .ref (ad 12)), (1, .int x1)] []
  refine gz_iconst K (v := (0 : Int32)) dX2_isListed_0 (by decide) ?_
  refine gz_istore_n K [(2, .int (0 : Int32)), (0, .ref (ad 12)), (1, .int x1)] dX2_isListed_1 (by decide) rfl ?_
  refine gz_sub [1, 2, 0] rfl ?_
  have ll_2 : ∀ (n_2 : Nat) (y1 : Int32) (y2 : Int32) , L_X2_isListed_2 σ post  n_2 y1 y2 → Gz p l e r_X2_isListed s m args below meth c D ad ty 3 0 0 (Ez below D ad ty nI0 (fun r τ => σ = τ ∧ post r) (fun _ _ => False) args s 0 0) σ 2 [(0, .ref (ad 12)), (1, .int y1), (2, .int y2)] [] := by
    intro n_2; induction n_2 with
    | zero => intro y1 y2 hp; exact False.elim hp
    | succ n_2 ih_2 =>
      intro y1 y2 hp
      have hp : B_X2_isListed_2 σ post  (L_X2_isListed_2 σ post  n_2) y1 y2 := hp
      unfold B_X2_isListed_2 at hp
      refine gz_iload_n K dX2_isListed_2 2 rfl ?_
      refine gz_aload_n K dX2_isListed_3 0 rfl ?_
      refine gz_get K (v := .int (gz_i σ 12 4)) (by decide) (ce_12 _ _ _ _ _ _) rfl inz_X2 4 (by decide) zq1_140 rfl dX2_isListed_4 ?_
      refine gz_icmp_ge K 28 dX2_isListed_7 (by decide) (fun h => ?_) (fun h => ?_)
      · have hp := hp.1 h
        refine gz_iconst K (v := (0 : Int32)) dX2_isListed_28 (by decide) ?_
        exact gz_zret K hr (by decide) ⟨rfl, hp⟩ dX2_isListed_29 (Nat.le_of_ble_eq_true rfl) (Nat.le_of_ble_eq_true rfl)
      · have hp := hp.2 h
        refine gz_aload_n K dX2_isListed_10 0 rfl ?_
        refine gz_get K (v := .ref (ad 16)) (by decide) (ce_12 _ _ _ _ _ _) rfl inz_X2 3 (by decide) zq1_139 rfl dX2_isListed_11 ?_
        refine gz_iload_n K dX2_isListed_14 2 rfl ?_
        obtain ⟨h, hp⟩ := hp
        refine gz_iald K (by decide) (ce_16 _ _ _ _ _ _) h dX2_isListed_15 ?_
        refine gz_iload_n K dX2_isListed_16 1 rfl ?_
        refine gz_icmp_ne K 22 dX2_isListed_17 (by decide) (fun h => ?_) (fun h => ?_)
        · have hp := hp.1 h
          refine gz_iinc K (v := (y2 + 1)) [(2, .int (y2 + 1)), (0, .ref (ad 12)), (1, .int y1)] dX2_isListed_22 2 rfl (by first | rfl | decide) (by decide) rfl ?_
          refine gz_goto K 2 dX2_isListed_25 (by decide) ?_
          refine gz_sub [1, 2, 0] rfl ?_
          exact ih_2 y1 (y2 + 1)  hp
        · have hp := hp.2 h
          refine gz_iconst K (v := (1 : Int32)) dX2_isListed_20 (by decide) ?_
          exact gz_zret K hr (by decide) ⟨rfl, hp⟩ dX2_isListed_21 (Nat.le_of_ble_eq_true rfl) (Nat.le_of_ble_eq_true rfl)
  obtain ⟨n, hp⟩ := hp
  exact ll_2 n x1 (0 : Int32)  hp
set_option maxRecDepth 100000 in
set_option maxHeartbeats 4000000 in
theorem c_X2_listTurns {l : Launch} {D : va_G} {ad : Nat → Nat} {ty : Nat → ClassId} (hl : l.stackTraces = false) (hj : ∀ i j, i < 68 → j < 68 → ad i = ad j → i = j) {σ : Dz} {k1 : Nat} (h1 : isS k1) {post : Dz → Prop} (hp : P_X2_listTurns σ k1 post) : Mz l D ad ty yX2_listTurns cX2_listTurns 4 none r_X2_listTurns nV0 σ [.ref (ad 12), .ref (ad k1)] (fun _ τ => post τ) (fun _ _ => False) := by
  refine mz_of (by decide) hl hj (Nat.le_of_ble_eq_true rfl) ?_
  intro p e s m args below meth c K hex hr
  unfold P_X2_listTurns at hp
  show Gz p l e r_X2_listTurns s m args below meth c D ad ty 4 0 0 (Ez below D ad ty nV0 (fun _ τ => post τ) (fun _ _ => False) args s 0 0) σ 0 [(0, .ref (ad 12)), (1, .ref (ad k1))] []
  refine gz_aload_n K dX2_listTurns_0 0 rfl ?_
  refine gz_iconst K (v := (0 : Int32)) dX2_listTurns_1 (by decide) ?_
  refine gz_put K (x := (0 : Int32)) (by decide) (ce_12 _ _ _ _ _ _) rfl inz_X2 tyX2 tyX2_ok nmX2 4 (by decide) zq1_140 rfl (tyX2_ok _ (by decide)) rfl rfl (Nat.le_of_ble_eq_true rfl) peX2_4 dX2_listTurns_2 ?_
  refine gz_iconst K (v := (0 : Int32)) dX2_listTurns_5 (by decide) ?_
  refine gz_istore_n K [(2, .int (0 : Int32)), (0, .ref (ad 12)), (1, .ref (ad k1))] dX2_listTurns_6 (by decide) rfl ?_
  refine gz_sub [1, 2, 0] rfl ?_
  have ll_7 : ∀ (n_7 : Nat) (σ : Dz) (y2 : Int32) , L_X2_listTurns_7 k1 post  n_7 σ y2 → Gz p l e r_X2_listTurns s m args below meth c D ad ty 4 0 0 (Ez below D ad ty nV0 (fun _ τ => post τ) (fun _ _ => False) args s 0 0) σ 7 [(0, .ref (ad 12)), (1, .ref (ad k1)), (2, .int y2)] [] := by
    intro n_7; induction n_7 with
    | zero => intro σ y2 hp; exact False.elim hp
    | succ n_7 ih_7 =>
      intro σ y2 hp
      have hp : B_X2_listTurns_7 k1 post  (L_X2_listTurns_7 k1 post  n_7) σ y2 := hp
      unfold B_X2_listTurns_7 at hp
      have bb_65 : ∀ (σ : Dz) (y2 : Int32) , B_X2_listTurns_65 k1 post (L_X2_listTurns_7 k1 post  n_7) σ y2 → Gz p l e r_X2_listTurns s m args below meth c D ad ty 4 0 0 (Ez below D ad ty nV0 (fun _ τ => post τ) (fun _ _ => False) args s 0 0) σ 65 [(0, .ref (ad 12)), (1, .ref (ad k1)), (2, .int y2)] [] := by
        intro σ y2 hp
        unfold B_X2_listTurns_65 at hp
        refine gz_iinc K (v := (y2 + 1)) [(2, .int (y2 + 1)), (0, .ref (ad 12)), (1, .ref (ad k1))] dX2_listTurns_65 2 rfl (by first | rfl | decide) (by decide) rfl ?_
        refine gz_goto K 7 dX2_listTurns_68 (by decide) ?_
        refine gz_sub [1, 2, 0] rfl ?_
        exact ih_7 σ (y2 + 1)  hp
      refine gz_iload_n K dX2_listTurns_7 2 rfl ?_
      refine gz_bipush K (v := (10 : Int32)) dX2_listTurns_8 (by decide) ?_
      refine gz_icmp_ge K 71 dX2_listTurns_10 (by decide) (fun h => ?_) (fun h => ?_)
      · have hp := hp.1 h
        exact gz_vret K hr hp dX2_listTurns_71 (Nat.le_of_ble_eq_true rfl) (Nat.le_of_ble_eq_true rfl)
      · have hp := hp.2 h
        refine gz_aload_n K dX2_listTurns_13 0 rfl ?_
        refine gz_get K (v := .int (gz_i σ 12 4)) (by decide) (ce_12 _ _ _ _ _ _) rfl inz_X2 4 (by decide) zq1_140 rfl dX2_listTurns_14 ?_
        refine gz_aload_n K dX2_listTurns_17 0 rfl ?_
        refine gz_get K (v := .ref (ad 16)) (by decide) (ce_12 _ _ _ _ _ _) rfl inz_X2 3 (by decide) zq1_139 rfl dX2_listTurns_18 ?_
        refine gz_alen K (v := (10 : Int32)) 3 rfl (by decide) (ce_16 _ _ _ _ _ _) (by decide) dX2_listTurns_21 ?_
        refine gz_icmp_ge K 71 dX2_listTurns_22 (by decide) (fun h => ?_) (fun h => ?_)
        · have hp := hp.1 h
          exact gz_vret K hr hp dX2_listTurns_71 (Nat.le_of_ble_eq_true rfl) (Nat.le_of_ble_eq_true rfl)
        · have hp := hp.2 h
          refine gz_aload_n K dX2_listTurns_25 1 rfl ?_
          refine gz_iload_n K dX2_listTurns_26 2 rfl ?_
          refine gz_callV K hex (c_X4_effectOfLetter K.2.2.2.2.2 K.2.2.1 h1 hp) cf_X4_effectOfLetter zq2_30 (ceS h1).1 ((ceS h1).2 _ _ _ _ _ _) rfl dX2_listTurns_27 rfl rfl (Nat.le_of_ble_eq_true rfl) ⟨Nat.le_of_ble_eq_true rfl, Nat.le_of_ble_eq_true rfl⟩ ⟨Nat.le_of_ble_eq_true rfl, Nat.le_of_ble_eq_true rfl⟩ (Nat.le_of_ble_eq_true rfl) (Nat.le_of_ble_eq_true rfl) (fun _ _ h => h.elim) (fun r27 τ hp => ?_)
          obtain ⟨rfl, hp⟩ := hp
          refine gz_norm (st' := [.int r27]) (cells' := 0) (slots' := 0) rfl rfl rfl ?_
          refine gz_istore_n K [(3, .int r27), (0, .ref (ad 12)), (1, .ref (ad k1)), (2, .int y2)] dX2_listTurns_30 (by decide) rfl ?_
          refine gz_iload_n K dX2_listTurns_31 0 rfl ?_
          refine gz_ldc K zq2_34 dX2_listTurns_32 ?_
          refine gz_icmp_eq K 65 dX2_listTurns_34 (by decide) (fun h => ?_) (fun h => ?_)
          · have hp := hp.1 h
            refine gz_sub [1, 2, 3] rfl ?_
            exact bb_65 σ y2  hp
          · have hp := hp.2 h
            refine gz_aload_n K dX2_listTurns_37 1 rfl ?_
            refine gz_iload_n K dX2_listTurns_38 0 rfl ?_
            refine gz_callV K hex (c_X2_isListed K.2.2.2.2.2 K.2.2.1 hp) cf_X2_isListed zq2_35 (by decide) (ce_12 _ _ _ _ _ _) rfl dX2_listTurns_39 rfl rfl (Nat.le_of_ble_eq_true rfl) ⟨Nat.le_of_ble_eq_true rfl, Nat.le_of_ble_eq_true rfl⟩ ⟨Nat.le_of_ble_eq_true rfl, Nat.le_of_ble_eq_true rfl⟩ (Nat.le_of_ble_eq_true rfl) (Nat.le_of_ble_eq_true rfl) (fun _ _ h => h.elim) (fun r39 τ hp => ?_)
            obtain ⟨rfl, hp⟩ := hp
            refine gz_norm (st' := [.int r39]) (cells' := 0) (slots' := 0) rfl rfl rfl ?_
            refine gz_if_ne K 65 dX2_listTurns_42 (by decide) (fun h => ?_) (fun h => ?_)
            · have hp := hp.1 h
              refine gz_sub [1, 2, 3] rfl ?_
              exact bb_65 σ y2  hp
            · have hp := hp.2 h
              refine gz_aload_n K dX2_listTurns_45 1 rfl ?_
              refine gz_get K (v := .ref (ad 16)) (by decide) (ce_12 _ _ _ _ _ _) rfl inz_X2 3 (by decide) zq1_139 rfl dX2_listTurns_46 ?_
              refine gz_aload_n K dX2_listTurns_49 1 rfl ?_
              refine gz_get K (v := .int (gz_i σ 12 4)) (by decide) (ce_12 _ _ _ _ _ _) rfl inz_X2 4 (by decide) zq1_140 rfl dX2_listTurns_50 ?_
              refine gz_iload_n K dX2_listTurns_53 0 rfl ?_
              obtain ⟨h, hp⟩ := hp
              refine gz_iast K (x := r27) (by decide) (ce_16 ad ty) h dX2_listTurns_54 ?_
              refine gz_aload_n K dX2_listTurns_55 1 rfl ?_
              refine gz_dup K dX2_listTurns_56 rfl ?_
              refine gz_get K (v := .int (gz_i (sz_i σ 16 ((gz_i σ 12 4)).toNatClampNeg r27) 12 4)) (by decide) (ce_12 _ _ _ _ _ _) rfl inz_X2 4 (by decide) zq1_140 rfl dX2_listTurns_57 ?_
              refine gz_iconst K (v := (1 : Int32)) dX2_listTurns_60 (by decide) ?_
              refine gz_iadd K dX2_listTurns_61 ?_
              refine gz_put K (x := ((gz_i (sz_i σ 16 ((gz_i σ 12 4)).toNatClampNeg r27) 12 4) + (1 : Int32))) (by decide) (ce_12 _ _ _ _ _ _) rfl inz_X2 tyX2 tyX2_ok nmX2 4 (by decide) zq1_140 rfl (tyX2_ok _ (by decide)) rfl rfl (Nat.le_of_ble_eq_true rfl) peX2_4 dX2_listTurns_62 ?_
              refine gz_sub [1, 2, 3] rfl ?_
              exact bb_65 (sz_i (sz_i σ 16 ((gz_i σ 12 4)).toNatClampNeg r27) 12 4 ((gz_i (sz_i σ 16 ((gz_i σ 12 4)).toNatClampNeg r27) 12 4) + (1 : Int32))) y2  hp
  obtain ⟨n, hp⟩ := hp
  exact ll_7 n (sz_i σ 12 4 (0 : Int32)) (0 : Int32)  hp
set_option maxRecDepth 100000 in
set_option maxHeartbeats 4000000 in
theorem c_X2_clear {l : Launch} {D : va_G} {ad : Nat → Nat} {ty : Nat → ClassId} (hl : l.stackTraces = false) (hj : ∀ i j, i < 68 → j < 68 → ad i = ad j → i = j) {σ : Dz} {x1 : Int32} {post : Int32 → Dz → Prop} (hp : P_X2_clear σ x1 post) : Mz l D ad ty yX2_clear cX2_clear 4 (some .int) r_X2_clear nI0 σ [.ref (ad 12), .int x1] post (fun _ _ => False) := by
  refine mz_of (by decide) hl hj (Nat.le_of_ble_eq_true rfl) ?_
  intro p e s m args below meth c K hex hr
  unfold P_X2_clear at hp
  have bb_25 : ∀ (σ : Dz) (y2 : Int32) , B_X2_clear_25 post  σ y2 → Gz p l e r_X2_clear s m args below meth c D ad ty 4 0 0 (Ez below D ad ty nI0 post (fun _ _ => False) args s 0 0) σ 25 [(0, .ref (ad 12)), (2, .int y2)] [] := by
    intro σ y2 hp
    unfold B_X2_clear_25 at hp
    refine gz_iconst K (v := (0 : Int32)) dX2_clear_25 (by decide) ?_
    refine gz_istore_n K [(3, .int (0 : Int32)), (0, .ref (ad 12)), (2, .int y2)] dX2_clear_26 (by decide) rfl ?_
    refine gz_sub [1, 2, 0] rfl ?_
    have ll_27 : ∀ (n_27 : Nat) (σ : Dz) (y2 : Int32) (y3 : Int32) , L_X2_clear_27 post  n_27 σ y2 y3 → Gz p l e r_X2_clear s m args below meth c D ad ty 4 0 0 (Ez below D ad ty nI0 post (fun _ _ => False) args s 0 0) σ 27 [(0, .ref (ad 12)), (2, .int y2), (3, .int y3)] [] := by
      intro n_27; induction n_27 with
      | zero => intro σ y2 y3 hp; exact False.elim hp
      | succ n_27 ih_27 =>
        intro σ y2 y3 hp
        have hp : B_X2_clear_27 post  (L_X2_clear_27 post  n_27) σ y2 y3 := hp
        unfold B_X2_clear_27 at hp
        refine gz_iload_n K dX2_clear_27 2 rfl ?_
        refine gz_iload_n K dX2_clear_28 1 rfl ?_
        refine gz_icmp_ge K 54 dX2_clear_29 (by decide) (fun h => ?_) (fun h => ?_)
        · have hp := hp.1 h
          refine gz_aload_n K dX2_clear_54 0 rfl ?_
          refine gz_iconst K (v := (0 : Int32)) dX2_clear_55 (by decide) ?_
          refine gz_put K (x := (0 : Int32)) (by decide) (ce_12 _ _ _ _ _ _) rfl inz_X2 tyX2 tyX2_ok nmX2 5 (by decide) zq1_141 rfl (tyX2_ok _ (by decide)) rfl rfl (Nat.le_of_ble_eq_true rfl) peX2_5 dX2_clear_56 ?_
          refine gz_iload_n K dX2_clear_59 1 rfl ?_
          exact gz_iret K hr hp dX2_clear_60 (Nat.le_of_ble_eq_true rfl) (Nat.le_of_ble_eq_true rfl)
        · have hp := hp.2 h
          refine gz_iload_n K dX2_clear_32 2 rfl ?_
          refine gz_aload_n K dX2_clear_33 0 rfl ?_
          refine gz_get K (v := .ref (ad 13)) (by decide) (ce_12 _ _ _ _ _ _) rfl inz_X2 0 (by decide) zq1_136 rfl dX2_clear_34 ?_
          refine gz_alen K (v := (5040 : Int32)) 3 rfl (by decide) (ce_13 _ _ _ _ _ _) (by decide) dX2_clear_37 ?_
          refine gz_icmp_ge K 54 dX2_clear_38 (by decide) (fun h => ?_) (fun h => ?_)
          · have hp := hp.1 h
            refine gz_aload_n K dX2_clear_54 0 rfl ?_
            refine gz_iconst K (v := (0 : Int32)) dX2_clear_55 (by decide) ?_
            refine gz_put K (x := (0 : Int32)) (by decide) (ce_12 _ _ _ _ _ _) rfl inz_X2 tyX2 tyX2_ok nmX2 5 (by decide) zq1_141 rfl (tyX2_ok _ (by decide)) rfl rfl (Nat.le_of_ble_eq_true rfl) peX2_5 dX2_clear_56 ?_
            refine gz_iload_n K dX2_clear_59 1 rfl ?_
            exact gz_iret K hr hp dX2_clear_60 (Nat.le_of_ble_eq_true rfl) (Nat.le_of_ble_eq_true rfl)
          · have hp := hp.2 h
            refine gz_aload_n K dX2_clear_41 0 rfl ?_
            refine gz_get K (v := .ref (ad 13)) (by decide) (ce_12 _ _ _ _ _ _) rfl inz_X2 0 (by decide) zq1_136 rfl dX2_clear_42 ?_
            refine gz_iload_n K dX2_clear_45 2 rfl ?_
            refine gz_iconst K (v := (-1 : Int32)) dX2_clear_46 (by decide) ?_
            obtain ⟨h, hp⟩ := hp
            refine gz_iast K (x := (-1 : Int32)) (by decide) (ce_13 ad ty) h dX2_clear_47 ?_
            refine gz_iinc K (v := (y3 + 1)) [(3, .int (y3 + 1)), (0, .ref (ad 12)), (2, .int y2)] dX2_clear_48 2 rfl (by first | rfl | decide) (by decide) rfl ?_
            refine gz_goto K 27 dX2_clear_51 (by decide) ?_
            refine gz_sub [1, 2, 0] rfl ?_
            exact ih_27 (sz_i σ 13 (y3).toNatClampNeg (-1 : Int32)) y2 (y3 + 1)  hp
    obtain ⟨n, hp⟩ := hp
    exact ll_27 n σ y2 (0 : Int32)  hp
  show Gz p l e r_X2_clear s m args below meth c D ad ty 4 0 0 (Ez below D ad ty nI0 post (fun _ _ => False) args s 0 0) σ 0 [(0, .ref (ad 12)), (1, .int x1)] []
  refine gz_iconst K (v := (1 : Int32)) dX2_clear_0 (by decide) ?_
  refine gz_istore_n K [(2, .int (1 : Int32)), (0, .ref (ad 12)), (1, .int x1)] dX2_clear_1 (by decide) rfl ?_
  refine gz_iconst K (v := (2 : Int32)) dX2_clear_2 (by decide) ?_
  refine gz_istore_n K [(3, .int (2 : Int32)), (2, .int (1 : Int32)), (0, .ref (ad 12)), (1, .int x1)] dX2_clear_3 (by decide) rfl ?_
  refine gz_sub [2, 3, 1, 0] rfl ?_
  have ll_4 : ∀ (n_4 : Nat) (σ : Dz) (y1 : Int32) (y2 : Int32) (y3 : Int32) , L_X2_clear_4 post  n_4 σ y1 y2 y3 → Gz p l e r_X2_clear s m args below meth c D ad ty 4 0 0 (Ez below D ad ty nI0 post (fun _ _ => False) args s 0 0) σ 4 [(0, .ref (ad 12)), (1, .int y1), (2, .int y2), (3, .int y3)] [] := by
    intro n_4; induction n_4 with
    | zero => intro σ y1 y2 y3 hp; exact False.elim hp
    | succ n_4 ih_4 =>
      intro σ y1 y2 y3 hp
      have hp : B_X2_clear_4 post  (L_X2_clear_4 post  n_4) σ y1 y2 y3 := hp
      unfold B_X2_clear_4 at hp
      refine gz_iload_n K dX2_clear_4 3 rfl ?_
      refine gz_iload_n K dX2_clear_5 1 rfl ?_
      refine gz_icmp_gt K 25 dX2_clear_6 (by decide) (fun h => ?_) (fun h => ?_)
      · have hp := hp.1 h
        refine gz_sub [0, 2] rfl ?_
        exact bb_25 σ y2  hp
      · have hp := hp.2 h
        refine gz_iload_n K dX2_clear_9 3 rfl ?_
        refine gz_bipush K (v := (7 : Int32)) dX2_clear_10 (by decide) ?_
        refine gz_icmp_gt K 25 dX2_clear_12 (by decide) (fun h => ?_) (fun h => ?_)
        · have hp := hp.1 h
          refine gz_sub [0, 2] rfl ?_
          exact bb_25 σ y2  hp
        · have hp := hp.2 h
          refine gz_iload_n K dX2_clear_15 2 rfl ?_
          refine gz_iload_n K dX2_clear_16 3 rfl ?_
          refine gz_imul K dX2_clear_17 ?_
          refine gz_istore_n K [(2, .int (y2 * y3)), (0, .ref (ad 12)), (1, .int y1), (3, .int y3)] dX2_clear_18 (by decide) rfl ?_
          refine gz_iinc K (v := (y3 + 1)) [(3, .int (y3 + 1)), (2, .int (y2 * y3)), (0, .ref (ad 12)), (1, .int y1)] dX2_clear_19 3 rfl (by first | rfl | decide) (by decide) rfl ?_
          refine gz_goto K 4 dX2_clear_22 (by decide) ?_
          refine gz_sub [2, 3, 1, 0] rfl ?_
          exact ih_4 σ y1 (y2 * y3) (y3 + 1)  hp
  obtain ⟨n, hp⟩ := hp
  exact ll_4 n σ x1 (1 : Int32) (2 : Int32)  hp
set_option maxRecDepth 100000 in
set_option maxHeartbeats 4000000 in
theorem c_J6_bitCount_0f7a4 {l : Launch} {D : va_G} {ad : Nat → Nat} {ty : Nat → ClassId} (hl : l.stackTraces = false) (hj : ∀ i j, i < 68 → j < 68 → ad i = ad j → i = j) {σ : Dz} {x0 : Int32} {post : Int32 → Prop} (hp : P_J6_bitCount_0f7a4 x0 post) : Mz l D ad ty yJ6_bitCount_0f7a4 cJ6_bitCount_0f7a4 1 (some .int) r_J6_bitCount_0f7a4 nI0 σ [.int x0] (fun r τ => σ = τ ∧ post r) (fun _ _ => False) := by
  refine mz_of (by decide) hl hj (Nat.le_of_ble_eq_true rfl) ?_
  intro p e s m args below meth c K hex hr
  unfold P_J6_bitCount_0f7a4 at hp
  show Gz p l e r_J6_bitCount_0f7a4 s m args below meth c D ad ty 1 0 0 (Ez below D ad ty nI0 (fun r τ => σ = τ ∧ post r) (fun _ _ => False) args s 0 0) σ 0 [(0, .int x0)] []
  refine gz_iload_n K dJ6_bitCount_0f7a4_0 0 rfl ?_
  refine gz_iload_n K dJ6_bitCount_0f7a4_1 0 rfl ?_
  refine gz_iconst K (v := (1 : Int32)) dJ6_bitCount_0f7a4_2 (by decide) ?_
  refine gz_iushr K dJ6_bitCount_0f7a4_3 ?_
  refine gz_ldc_w K zq2_56 dJ6_bitCount_0f7a4_4 ?_
  refine gz_iand K dJ6_bitCount_0f7a4_7 ?_
  refine gz_isub K dJ6_bitCount_0f7a4_8 ?_
  refine gz_istore_n K [(0, .int (x0 - (((x0).toUInt32 >>> (((1 : Int32)).toUInt32 &&& Int32.toUInt32 31)).toInt32 &&& (1431655765 : Int32))))] dJ6_bitCount_0f7a4_9 (by decide) rfl ?_
  refine gz_iload_n K dJ6_bitCount_0f7a4_10 0 rfl ?_
  refine gz_ldc_w K zq2_57 dJ6_bitCount_0f7a4_11 ?_
  refine gz_iand K dJ6_bitCount_0f7a4_14 ?_
  refine gz_iload_n K dJ6_bitCount_0f7a4_15 0 rfl ?_
  refine gz_iconst K (v := (2 : Int32)) dJ6_bitCount_0f7a4_16 (by decide) ?_
  refine gz_iushr K dJ6_bitCount_0f7a4_17 ?_
  refine gz_ldc_w K zq2_57 dJ6_bitCount_0f7a4_18 ?_
  refine gz_iand K dJ6_bitCount_0f7a4_21 ?_
  refine gz_iadd K dJ6_bitCount_0f7a4_22 ?_
  refine gz_istore_n K [(0, .int (((x0 - (((x0).toUInt32 >>> (((1 : Int32)).toUInt32 &&& Int32.toUInt32 31)).toInt32 &&& (1431655765 : Int32))) &&& (858993459 : Int32)) + ((((x0 - (((x0).toUInt32 >>> (((1 : Int32)).toUInt32 &&& Int32.toUInt32 31)).toInt32 &&& (1431655765 : Int32)))).toUInt32 >>> (((2 : Int32)).toUInt32 &&& Int32.toUInt32 31)).toInt32 &&& (858993459 : Int32))))] dJ6_bitCount_0f7a4_23 (by decide) rfl ?_
  refine gz_iload_n K dJ6_bitCount_0f7a4_24 0 rfl ?_
  refine gz_iload_n K dJ6_bitCount_0f7a4_25 0 rfl ?_
  refine gz_iconst K (v := (4 : Int32)) dJ6_bitCount_0f7a4_26 (by decide) ?_
  refine gz_iushr K dJ6_bitCount_0f7a4_27 ?_
  refine gz_iadd K dJ6_bitCount_0f7a4_28 ?_
  refine gz_ldc_w K zq2_58 dJ6_bitCount_0f7a4_29 ?_
  refine gz_iand K dJ6_bitCount_0f7a4_32 ?_
  refine gz_istore_n K [(0, .int (((((x0 - (((x0).toUInt32 >>> (((1 : Int32)).toUInt32 &&& Int32.toUInt32 31)).toInt32 &&& (1431655765 : Int32))) &&& (858993459 : Int32)) + ((((x0 - (((x0).toUInt32 >>> (((1 : Int32)).toUInt32 &&& Int32.toUInt32 31)).toInt32 &&& (1431655765 : Int32)))).toUInt32 >>> (((2 : Int32)).toUInt32 &&& Int32.toUInt32 31)).toInt32 &&& (858993459 : Int32))) + (((((x0 - (((x0).toUInt32 >>> (((1 : Int32)).toUInt32 &&& Int32.toUInt32 31)).toInt32 &&& (1431655765 : Int32))) &&& (858993459 : Int32)) + ((((x0 - (((x0).toUInt32 >>> (((1 : Int32)).toUInt32 &&& Int32.toUInt32 31)).toInt32 &&& (1431655765 : Int32)))).toUInt32 >>> (((2 : Int32)).toUInt32 &&& Int32.toUInt32 31)).toInt32 &&& (858993459 : Int32)))).toUInt32 >>> (((4 : Int32)).toUInt32 &&& Int32.toUInt32 31)).toInt32) &&& (252645135 : Int32)))] dJ6_bitCount_0f7a4_33 (by decide) rfl ?_
  refine gz_iload_n K dJ6_bitCount_0f7a4_34 0 rfl ?_
  refine gz_iload_n K dJ6_bitCount_0f7a4_35 0 rfl ?_
  refine gz_bipush K (v := (8 : Int32)) dJ6_bitCount_0f7a4_36 (by decide) ?_
  refine gz_iushr K dJ6_bitCount_0f7a4_38 ?_
  refine gz_iadd K dJ6_bitCount_0f7a4_39 ?_
  refine gz_istore_n K [(0, .int ((((((x0 - (((x0).toUInt32 >>> (((1 : Int32)).toUInt32 &&& Int32.toUInt32 31)).toInt32 &&& (1431655765 : Int32))) &&& (858993459 : Int32)) + ((((x0 - (((x0).toUInt32 >>> (((1 : Int32)).toUInt32 &&& Int32.toUInt32 31)).toInt32 &&& (1431655765 : Int32)))).toUInt32 >>> (((2 : Int32)).toUInt32 &&& Int32.toUInt32 31)).toInt32 &&& (858993459 : Int32))) + (((((x0 - (((x0).toUInt32 >>> (((1 : Int32)).toUInt32 &&& Int32.toUInt32 31)).toInt32 &&& (1431655765 : Int32))) &&& (858993459 : Int32)) + ((((x0 - (((x0).toUInt32 >>> (((1 : Int32)).toUInt32 &&& Int32.toUInt32 31)).toInt32 &&& (1431655765 : Int32)))).toUInt32 >>> (((2 : Int32)).toUInt32 &&& Int32.toUInt32 31)).toInt32 &&& (858993459 : Int32)))).toUInt32 >>> (((4 : Int32)).toUInt32 &&& Int32.toUInt32 31)).toInt32) &&& (252645135 : Int32)) + (((((((x0 - (((x0).toUInt32 >>> (((1 : Int32)).toUInt32 &&& Int32.toUInt32 31)).toInt32 &&& (1431655765 : Int32))) &&& (858993459 : Int32)) + ((((x0 - (((x0).toUInt32 >>> (((1 : Int32)).toUInt32 &&& Int32.toUInt32 31)).toInt32 &&& (1431655765 : Int32)))).toUInt32 >>> (((2 : Int32)).toUInt32 &&& Int32.toUInt32 31)).toInt32 &&& (858993459 : Int32))) + (((((x0 - (((x0).toUInt32 >>> (((1 : Int32)).toUInt32 &&& Int32.toUInt32 31)).toInt32 &&& (1431655765 : Int32))) &&& (858993459 : Int32)) + ((((x0 - (((x0).toUInt32 >>> (((1 : Int32)).toUInt32 &&& Int32.toUInt32 31)).toInt32 &&& (1431655765 : Int32)))).toUInt32 >>> (((2 : Int32)).toUInt32 &&& Int32.toUInt32 31)).toInt32 &&& (858993459 : Int32)))).toUInt32 >>> (((4 : Int32)).toUInt32 &&& Int32.toUInt32 31)).toInt32) &&& (252645135 : Int32))).toUInt32 >>> (((8 : Int32)).toUInt32 &&& Int32.toUInt32 31)).toInt32))] dJ6_bitCount_0f7a4_40 (by decide) rfl ?_
  refine gz_iload_n K dJ6_bitCount_0f7a4_41 0 rfl ?_
  refine gz_iload_n K dJ6_bitCount_0f7a4_42 0 rfl ?_
  refine gz_bipush K (v := (16 : Int32)) dJ6_bitCount_0f7a4_43 (by decide) ?_
  refine gz_iushr K dJ6_bitCount_0f7a4_45 ?_
  refine gz_iadd K dJ6_bitCount_0f7a4_46 ?_
  refine gz_istore_n K [(0, .int (((((((x0 - (((x0).toUInt32 >>> (((1 : Int32)).toUInt32 &&& Int32.toUInt32 31)).toInt32 &&& (1431655765 : Int32))) &&& (858993459 : Int32)) + ((((x0 - (((x0).toUInt32 >>> (((1 : Int32)).toUInt32 &&& Int32.toUInt32 31)).toInt32 &&& (1431655765 : Int32)))).toUInt32 >>> (((2 : Int32)).toUInt32 &&& Int32.toUInt32 31)).toInt32 &&& (858993459 : Int32))) + (((((x0 - (((x0).toUInt32 >>> (((1 : Int32)).toUInt32 &&& Int32.toUInt32 31)).toInt32 &&& (1431655765 : Int32))) &&& (858993459 : Int32)) + ((((x0 - (((x0).toUInt32 >>> (((1 : Int32)).toUInt32 &&& Int32.toUInt32 31)).toInt32 &&& (1431655765 : Int32)))).toUInt32 >>> (((2 : Int32)).toUInt32 &&& Int32.toUInt32 31)).toInt32 &&& (858993459 : Int32)))).toUInt32 >>> (((4 : Int32)).toUInt32 &&& Int32.toUInt32 31)).toInt32) &&& (252645135 : Int32)) + (((((((x0 - (((x0).toUInt32 >>> (((1 : Int32)).toUInt32 &&& Int32.toUInt32 31)).toInt32 &&& (1431655765 : Int32))) &&& (858993459 : Int32)) + ((((x0 - (((x0).toUInt32 >>> (((1 : Int32)).toUInt32 &&& Int32.toUInt32 31)).toInt32 &&& (1431655765 : Int32)))).toUInt32 >>> (((2 : Int32)).toUInt32 &&& Int32.toUInt32 31)).toInt32 &&& (858993459 : Int32))) + (((((x0 - (((x0).toUInt32 >>> (((1 : Int32)).toUInt32 &&& Int32.toUInt32 31)).toInt32 &&& (1431655765 : Int32))) &&& (858993459 : Int32)) + ((((x0 - (((x0).toUInt32 >>> (((1 : Int32)).toUInt32 &&& Int32.toUInt32 31)).toInt32 &&& (1431655765 : Int32)))).toUInt32 >>> (((2 : Int32)).toUInt32 &&& Int32.toUInt32 31)).toInt32 &&& (858993459 : Int32)))).toUInt32 >>> (((4 : Int32)).toUInt32 &&& Int32.toUInt32 31)).toInt32) &&& (252645135 : Int32))).toUInt32 >>> (((8 : Int32)).toUInt32 &&& Int32.toUInt32 31)).toInt32) + ((((((((x0 - (((x0).toUInt32 >>> (((1 : Int32)).toUInt32 &&& Int32.toUInt32 31)).toInt32 &&& (1431655765 : Int32))) &&& (858993459 : Int32)) + ((((x0 - (((x0).toUInt32 >>> (((1 : Int32)).toUInt32 &&& Int32.toUInt32 31)).toInt32 &&& (1431655765 : Int32)))).toUInt32 >>> (((2 : Int32)).toUInt32 &&& Int32.toUInt32 31)).toInt32 &&& (858993459 : Int32))) + (((((x0 - (((x0).toUInt32 >>> (((1 : Int32)).toUInt32 &&& Int32.toUInt32 31)).toInt32 &&& (1431655765 : Int32))) &&& (858993459 : Int32)) + ((((x0 - (((x0).toUInt32 >>> (((1 : Int32)).toUInt32 &&& Int32.toUInt32 31)).toInt32 &&& (1431655765 : Int32)))).toUInt32 >>> (((2 : Int32)).toUInt32 &&& Int32.toUInt32 31)).toInt32 &&& (858993459 : Int32)))).toUInt32 >>> (((4 : Int32)).toUInt32 &&& Int32.toUInt32 31)).toInt32) &&& (252645135 : Int32)) + (((((((x0 - (((x0).toUInt32 >>> (((1 : Int32)).toUInt32 &&& Int32.toUInt32 31)).toInt32 &&& (1431655765 : Int32))) &&& (858993459 : Int32)) + ((((x0 - (((x0).toUInt32 >>> (((1 : Int32)).toUInt32 &&& Int32.toUInt32 31)).toInt32 &&& (1431655765 : Int32)))).toUInt32 >>> (((2 : Int32)).toUInt32 &&& Int32.toUInt32 31)).toInt32 &&& (858993459 : Int32))) + (((((x0 - (((x0).toUInt32 >>> (((1 : Int32)).toUInt32 &&& Int32.toUInt32 31)).toInt32 &&& (1431655765 : Int32))) &&& (858993459 : Int32)) + ((((x0 - (((x0).toUInt32 >>> (((1 : Int32)).toUInt32 &&& Int32.toUInt32 31)).toInt32 &&& (1431655765 : Int32)))).toUInt32 >>> (((2 : Int32)).toUInt32 &&& Int32.toUInt32 31)).toInt32 &&& (858993459 : Int32)))).toUInt32 >>> (((4 : Int32)).toUInt32 &&& Int32.toUInt32 31)).toInt32) &&& (252645135 : Int32))).toUInt32 >>> (((8 : Int32)).toUInt32 &&& Int32.toUInt32 31)).toInt32)).toUInt32 >>> (((16 : Int32)).toUInt32 &&& Int32.toUInt32 31)).toInt32))] dJ6_bitCount_0f7a4_47 (by decide) rfl ?_
  refine gz_iload_n K dJ6_bitCount_0f7a4_48 0 rfl ?_
  refine gz_bipush K (v := (63 : Int32)) dJ6_bitCount_0f7a4_49 (by decide) ?_
  refine gz_iand K dJ6_bitCount_0f7a4_51 ?_
  exact gz_iret K hr ⟨rfl, hp⟩ dJ6_bitCount_0f7a4_52 (Nat.le_of_ble_eq_true rfl) (Nat.le_of_ble_eq_true rfl)
set_option maxRecDepth 100000 in
set_option maxHeartbeats 4000000 in
theorem c_X3_rankOf {l : Launch} {D : va_G} {ad : Nat → Nat} {ty : Nat → ClassId} (hl : l.stackTraces = false) (hj : ∀ i j, i < 68 → j < 68 → ad i = ad j → i = j) {σ : Dz} {x0 : Int32} {post : Int32 → Prop} (hp : P_X3_rankOf x0 post) : Mz l D ad ty yX3_rankOf cX3_rankOf 6 (some .int) r_X3_rankOf nI0 σ [.int x0] (fun r τ => σ = τ ∧ post r) (fun _ _ => False) := by
  refine mz_of (by decide) hl hj (Nat.le_of_ble_eq_true rfl) ?_
  intro p e s m args below meth c K hex hr
  unfold P_X3_rankOf at hp
  show Gz p l e r_X3_rankOf s m args below meth c D ad ty 6 0 0 (Ez below D ad ty nI0 (fun r τ => σ = τ ∧ post r) (fun _ _ => False) args s 0 0) σ 0 [(0, .int x0)] []
  refine gz_iconst K (v := (0 : Int32)) dX3_rankOf_0 (by decide) ?_
  refine gz_istore_n K [(1, .int (0 : Int32)), (0, .int x0)] dX3_rankOf_1 (by decide) rfl ?_
  refine gz_iconst K (v := (0 : Int32)) dX3_rankOf_2 (by decide) ?_
  refine gz_istore_n K [(2, .int (0 : Int32)), (1, .int (0 : Int32)), (0, .int x0)] dX3_rankOf_3 (by decide) rfl ?_
  refine gz_iconst K (v := (1 : Int32)) dX3_rankOf_4 (by decide) ?_
  refine gz_istore_n K [(3, .int (1 : Int32)), (2, .int (0 : Int32)), (1, .int (0 : Int32)), (0, .int x0)] dX3_rankOf_5 (by decide) rfl ?_
  refine gz_iconst K (v := (0 : Int32)) dX3_rankOf_6 (by decide) ?_
  refine gz_istore K [(4, .int (0 : Int32)), (3, .int (1 : Int32)), (2, .int (0 : Int32)), (1, .int (0 : Int32)), (0, .int x0)] dX3_rankOf_7 (by decide) rfl ?_
  refine gz_sub [4, 3, 2, 1, 0] rfl ?_
  have ll_9 : ∀ (n_9 : Nat) (y0 : Int32) (y1 : Int32) (y2 : Int32) (y3 : Int32) (y4 : Int32) , L_X3_rankOf_9 post  n_9 y0 y1 y2 y3 y4 → Gz p l e r_X3_rankOf s m args below meth c D ad ty 6 0 0 (Ez below D ad ty nI0 (fun r τ => σ = τ ∧ post r) (fun _ _ => False) args s 0 0) σ 9 [(0, .int y0), (1, .int y1), (2, .int y2), (3, .int y3), (4, .int y4)] [] := by
    intro n_9; induction n_9 with
    | zero => intro y0 y1 y2 y3 y4 hp; exact False.elim hp
    | succ n_9 ih_9 =>
      intro y0 y1 y2 y3 y4 hp
      have hp : B_X3_rankOf_9 post  (L_X3_rankOf_9 post  n_9) y0 y1 y2 y3 y4 := hp
      unfold B_X3_rankOf_9 at hp
      refine gz_iload K dX3_rankOf_9 4 rfl ?_
      refine gz_bipush K (v := (7 : Int32)) dX3_rankOf_11 (by decide) ?_
      refine gz_icmp_ge K 56 dX3_rankOf_13 (by decide) (fun h => ?_) (fun h => ?_)
      · have hp := hp.1 h
        refine gz_iload_n K dX3_rankOf_56 2 rfl ?_
        exact gz_iret K hr ⟨rfl, hp⟩ dX3_rankOf_57 (Nat.le_of_ble_eq_true rfl) (Nat.le_of_ble_eq_true rfl)
      · have hp := hp.2 h
        refine gz_iload_n K dX3_rankOf_16 0 rfl ?_
        refine gz_iload K dX3_rankOf_17 4 rfl ?_
        refine gz_callS K hex (c_X3_imageOf K.2.2.2.2.2 K.2.2.1 hp) cf_X3_imageOf zq2_50 dX3_rankOf_19 rfl rfl (Nat.le_of_ble_eq_true rfl) ⟨Nat.le_of_ble_eq_true rfl, Nat.le_of_ble_eq_true rfl⟩ ⟨Nat.le_of_ble_eq_true rfl, Nat.le_of_ble_eq_true rfl⟩ (Nat.le_of_ble_eq_true rfl) (Nat.le_of_ble_eq_true rfl) (fun _ _ h => h.elim) (fun r19 τ hp => ?_)
        obtain ⟨rfl, hp⟩ := hp
        refine gz_norm (st' := [.int r19]) (cells' := 0) (slots' := 0) rfl rfl rfl ?_
        refine gz_istore K [(5, .int r19), (0, .int y0), (1, .int y1), (2, .int y2), (3, .int y3), (4, .int y4)] dX3_rankOf_22 (by decide) rfl ?_
        refine gz_iload_n K dX3_rankOf_24 3 rfl ?_
        refine gz_iload_n K dX3_rankOf_25 4 rfl ?_
        refine gz_iload_n K dX3_rankOf_26 2 rfl ?_
        refine gz_iload K dX3_rankOf_27 0 rfl ?_
        refine gz_iushr K dX3_rankOf_29 ?_
        refine gz_callS K hex (c_J6_bitCount_0f7a4 K.2.2.2.2.2 K.2.2.1 hp) cf_J6_bitCount_0f7a4 zq2_53 dX3_rankOf_30 rfl rfl (Nat.le_of_ble_eq_true rfl) ⟨Nat.le_of_ble_eq_true rfl, Nat.le_of_ble_eq_true rfl⟩ ⟨Nat.le_of_ble_eq_true rfl, Nat.le_of_ble_eq_true rfl⟩ (Nat.le_of_ble_eq_true rfl) (Nat.le_of_ble_eq_true rfl) (fun _ _ h => h.elim) (fun r30 τ hp => ?_)
        obtain ⟨rfl, hp⟩ := hp
        refine gz_norm (st' := [.int r30, .int y3, .int y2]) (cells' := 0) (slots' := 0) rfl rfl rfl ?_
        refine gz_imul K dX3_rankOf_33 ?_
        refine gz_iadd K dX3_rankOf_34 ?_
        refine gz_istore_n K [(2, .int (y2 + (y3 * r30))), (5, .int r19), (0, .int y0), (1, .int y1), (3, .int y3), (4, .int y4)] dX3_rankOf_35 (by decide) rfl ?_
        refine gz_iload_n K dX3_rankOf_36 3 rfl ?_
        refine gz_iconst K (v := (1 : Int32)) dX3_rankOf_37 (by decide) ?_
        refine gz_iload K dX3_rankOf_38 1 rfl ?_
        refine gz_ishl K dX3_rankOf_40 ?_
        refine gz_ior K dX3_rankOf_41 ?_
        refine gz_istore_n K [(1, .int (y1 ||| ((1 : Int32) <<< (r19 &&& 31)))), (2, .int (y2 + (y3 * r30))), (5, .int r19), (0, .int y0), (3, .int y3), (4, .int y4)] dX3_rankOf_42 (by decide) rfl ?_
        refine gz_iload_n K dX3_rankOf_43 4 rfl ?_
        refine gz_iload K dX3_rankOf_44 5 rfl ?_
        refine gz_iconst K (v := (1 : Int32)) dX3_rankOf_46 (by decide) ?_
        refine gz_iadd K dX3_rankOf_47 ?_
        refine gz_imul K dX3_rankOf_48 ?_
        refine gz_istore_n K [(3, .int (y3 * (y4 + (1 : Int32)))), (1, .int (y1 ||| ((1 : Int32) <<< (r19 &&& 31)))), (2, .int (y2 + (y3 * r30))), (5, .int r19), (0, .int y0), (4, .int y4)] dX3_rankOf_49 (by decide) rfl ?_
        refine gz_iinc K (v := (y4 + 1)) [(4, .int (y4 + 1)), (3, .int (y3 * (y4 + (1 : Int32)))), (1, .int (y1 ||| ((1 : Int32) <<< (r19 &&& 31)))), (2, .int (y2 + (y3 * r30))), (5, .int r19), (0, .int y0)] dX3_rankOf_50 5 rfl (by first | rfl | decide) (by decide) rfl ?_
        refine gz_goto K 9 dX3_rankOf_53 (by decide) ?_
        refine gz_sub [5, 2, 3, 1, 0] rfl ?_
        exact ih_9 y0 (y1 ||| ((1 : Int32) <<< (r19 &&& 31))) (y2 + (y3 * r30)) (y3 * (y4 + (1 : Int32))) (y4 + 1)  hp
  obtain ⟨n, hp⟩ := hp
  exact ll_9 n x0 (0 : Int32) (0 : Int32) (1 : Int32) (0 : Int32)  hp
set_option maxRecDepth 100000 in
set_option maxHeartbeats 4000000 in
theorem c_X2_reach {l : Launch} {D : va_G} {ad : Nat → Nat} {ty : Nat → ClassId} (hl : l.stackTraces = false) (hj : ∀ i j, i < 68 → j < 68 → ad i = ad j → i = j) {σ : Dz} {x1 : Int32} {x2 : Int32} {post : Dz → Prop} (hp : P_X2_reach σ x1 x2 post) : Mz l D ad ty yX2_reach cX2_reach 4 none r_X2_reach nV0 σ [.ref (ad 12), .int x1, .int x2] (fun _ τ => post τ) (fun _ _ => False) := by
  refine mz_of (by decide) hl hj (Nat.le_of_ble_eq_true rfl) ?_
  intro p e s m args below meth c K hex hr
  unfold P_X2_reach at hp
  show Gz p l e r_X2_reach s m args below meth c D ad ty 4 0 0 (Ez below D ad ty nV0 (fun _ τ => post τ) (fun _ _ => False) args s 0 0) σ 0 [(0, .ref (ad 12)), (1, .int x1), (2, .int x2)] []
  refine gz_iload_n K dX2_reach_0 1 rfl ?_
  refine gz_callS K hex (c_X3_rankOf K.2.2.2.2.2 K.2.2.1 hp) cf_X3_rankOf zq2_47 dX2_reach_1 rfl rfl (Nat.le_of_ble_eq_true rfl) ⟨Nat.le_of_ble_eq_true rfl, Nat.le_of_ble_eq_true rfl⟩ ⟨Nat.le_of_ble_eq_true rfl, Nat.le_of_ble_eq_true rfl⟩ (Nat.le_of_ble_eq_true rfl) (Nat.le_of_ble_eq_true rfl) (fun _ _ h => h.elim) (fun r1 τ hp => ?_)
  obtain ⟨rfl, hp⟩ := hp
  refine gz_norm (st' := [.int r1]) (cells' := 0) (slots' := 0) rfl rfl rfl ?_
  refine gz_istore_n K [(3, .int r1), (0, .ref (ad 12)), (1, .int x1), (2, .int x2)] dX2_reach_4 (by decide) rfl ?_
  refine gz_iload_n K dX2_reach_5 0 rfl ?_
  refine gz_if_lt K 30 dX2_reach_6 (by decide) (fun h => ?_) (fun h => ?_)
  · have hp := hp.1 h
    exact gz_vret K hr hp dX2_reach_30 (Nat.le_of_ble_eq_true rfl) (Nat.le_of_ble_eq_true rfl)
  · have hp := hp.2 h
    refine gz_iload_n K dX2_reach_9 0 rfl ?_
    refine gz_aload_n K dX2_reach_10 1 rfl ?_
    refine gz_get K (v := .ref (ad 13)) (by decide) (ce_12 _ _ _ _ _ _) rfl inz_X2 0 (by decide) zq1_136 rfl dX2_reach_11 ?_
    refine gz_alen K (v := (5040 : Int32)) 3 rfl (by decide) (ce_13 _ _ _ _ _ _) (by decide) dX2_reach_14 ?_
    refine gz_icmp_ge K 30 dX2_reach_15 (by decide) (fun h => ?_) (fun h => ?_)
    · have hp := hp.1 h
      exact gz_vret K hr hp dX2_reach_30 (Nat.le_of_ble_eq_true rfl) (Nat.le_of_ble_eq_true rfl)
    · have hp := hp.2 h
      refine gz_aload_n K dX2_reach_18 1 rfl ?_
      refine gz_get K (v := .int (gz_i σ 12 5)) (by decide) (ce_12 _ _ _ _ _ _) rfl inz_X2 5 (by decide) zq1_141 rfl dX2_reach_19 ?_
      refine gz_aload_n K dX2_reach_22 1 rfl ?_
      refine gz_get K (v := .ref (ad 14)) (by decide) (ce_12 _ _ _ _ _ _) rfl inz_X2 1 (by decide) zq1_137 rfl dX2_reach_23 ?_
      refine gz_alen K (v := (5040 : Int32)) 3 rfl (by decide) (ce_14 _ _ _ _ _ _) (by decide) dX2_reach_26 ?_
      refine gz_icmp_lt K 31 dX2_reach_27 (by decide) (fun h => ?_) (fun h => ?_)
      · have hp := hp.1 h
        refine gz_aload_n K dX2_reach_31 1 rfl ?_
        refine gz_get K (v := .ref (ad 13)) (by decide) (ce_12 _ _ _ _ _ _) rfl inz_X2 0 (by decide) zq1_136 rfl dX2_reach_32 ?_
        refine gz_iload_n K dX2_reach_35 0 rfl ?_
        obtain ⟨h, hp⟩ := hp
        refine gz_iald K (by decide) (ce_13 _ _ _ _ _ _) h dX2_reach_36 ?_
        refine gz_iconst K (v := (-1 : Int32)) dX2_reach_37 (by decide) ?_
        refine gz_icmp_ne K 68 dX2_reach_38 (by decide) (fun h => ?_) (fun h => ?_)
        · have hp := hp.1 h
          exact gz_vret K hr hp dX2_reach_68 (Nat.le_of_ble_eq_true rfl) (Nat.le_of_ble_eq_true rfl)
        · have hp := hp.2 h
          refine gz_aload_n K dX2_reach_41 1 rfl ?_
          refine gz_get K (v := .ref (ad 13)) (by decide) (ce_12 _ _ _ _ _ _) rfl inz_X2 0 (by decide) zq1_136 rfl dX2_reach_42 ?_
          refine gz_iload_n K dX2_reach_45 0 rfl ?_
          refine gz_iload_n K dX2_reach_46 3 rfl ?_
          obtain ⟨h, hp⟩ := hp
          refine gz_iast K (x := x2) (by decide) (ce_13 ad ty) h dX2_reach_47 ?_
          refine gz_aload_n K dX2_reach_48 1 rfl ?_
          refine gz_get K (v := .ref (ad 14)) (by decide) (ce_12 _ _ _ _ _ _) rfl inz_X2 1 (by decide) zq1_137 rfl dX2_reach_49 ?_
          refine gz_aload_n K dX2_reach_52 1 rfl ?_
          refine gz_get K (v := .int (gz_i (sz_i σ 13 (r1).toNatClampNeg x2) 12 5)) (by decide) (ce_12 _ _ _ _ _ _) rfl inz_X2 5 (by decide) zq1_141 rfl dX2_reach_53 ?_
          refine gz_iload_n K dX2_reach_56 2 rfl ?_
          obtain ⟨h, hp⟩ := hp
          refine gz_iast K (x := x1) (by decide) (ce_14 ad ty) h dX2_reach_57 ?_
          refine gz_aload_n K dX2_reach_58 1 rfl ?_
          refine gz_dup K dX2_reach_59 rfl ?_
          refine gz_get K (v := .int (gz_i (sz_i (sz_i σ 13 (r1).toNatClampNeg x2) 14 ((gz_i (sz_i σ 13 (r1).toNatClampNeg x2) 12 5)).toNatClampNeg x1) 12 5)) (by decide) (ce_12 _ _ _ _ _ _) rfl inz_X2 5 (by decide) zq1_141 rfl dX2_reach_60 ?_
          refine gz_iconst K (v := (1 : Int32)) dX2_reach_63 (by decide) ?_
          refine gz_iadd K dX2_reach_64 ?_
          refine gz_put K (x := ((gz_i (sz_i (sz_i σ 13 (r1).toNatClampNeg x2) 14 ((gz_i (sz_i σ 13 (r1).toNatClampNeg x2) 12 5)).toNatClampNeg x1) 12 5) + (1 : Int32))) (by decide) (ce_12 _ _ _ _ _ _) rfl inz_X2 tyX2 tyX2_ok nmX2 5 (by decide) zq1_141 rfl (tyX2_ok _ (by decide)) rfl rfl (Nat.le_of_ble_eq_true rfl) peX2_5 dX2_reach_65 ?_
          exact gz_vret K hr hp dX2_reach_68 (Nat.le_of_ble_eq_true rfl) (Nat.le_of_ble_eq_true rfl)
      · have hp := hp.2 h
        exact gz_vret K hr hp dX2_reach_30 (Nat.le_of_ble_eq_true rfl) (Nat.le_of_ble_eq_true rfl)
set_option maxRecDepth 100000 in
set_option maxHeartbeats 4000000 in
theorem c_X2_build {l : Launch} {D : va_G} {ad : Nat → Nat} {ty : Nat → ClassId} (hl : l.stackTraces = false) (hj : ∀ i j, i < 68 → j < 68 → ad i = ad j → i = j) {σ : Dz} {k1 : Nat} (h1 : isS k1) {x2 : Int32} {post : Dz → Prop} (hp : P_X2_build σ k1 x2 post) : Mz l D ad ty yX2_build cX2_build 9 none r_X2_build nV0 σ [.ref (ad 12), .ref (ad k1), .int x2] (fun _ τ => post τ) (fun _ _ => False) := by
  refine mz_of (by decide) hl hj (Nat.le_of_ble_eq_true rfl) ?_
  intro p e s m args below meth c K hex hr
  unfold P_X2_build at hp
  show Gz p l e r_X2_build s m args below meth c D ad ty 9 0 0 (Ez below D ad ty nV0 (fun _ τ => post τ) (fun _ _ => False) args s 0 0) σ 0 [(0, .ref (ad 12)), (1, .ref (ad k1)), (2, .int x2)] []
  refine gz_aload_n K dX2_build_0 0 rfl ?_
  refine gz_aload_n K dX2_build_1 1 rfl ?_
  refine gz_callV K hex (c_X2_listTurns K.2.2.2.2.2 K.2.2.1 h1 hp) cf_X2_listTurns zq2_26 (by decide) (ce_12 _ _ _ _ _ _) rfl dX2_build_2 rfl rfl (Nat.le_of_ble_eq_true rfl) ⟨Nat.le_of_ble_eq_true rfl, Nat.le_of_ble_eq_true rfl⟩ ⟨Nat.le_of_ble_eq_true rfl, Nat.le_of_ble_eq_true rfl⟩ (Nat.le_of_ble_eq_true rfl) (Nat.le_of_ble_eq_true rfl) (fun _ _ h => h.elim) (fun _ τ2 hp => ?_)
  refine gz_norm (st' := []) (cells' := 0) (slots' := 0) rfl rfl rfl ?_
  refine gz_aload_n K dX2_build_5 0 rfl ?_
  refine gz_iload_n K dX2_build_6 2 rfl ?_
  refine gz_callV K hex (c_X2_clear K.2.2.2.2.2 K.2.2.1 hp) cf_X2_clear zq2_39 (by decide) (ce_12 _ _ _ _ _ _) rfl dX2_build_7 rfl rfl (Nat.le_of_ble_eq_true rfl) ⟨Nat.le_of_ble_eq_true rfl, Nat.le_of_ble_eq_true rfl⟩ ⟨Nat.le_of_ble_eq_true rfl, Nat.le_of_ble_eq_true rfl⟩ (Nat.le_of_ble_eq_true rfl) (Nat.le_of_ble_eq_true rfl) (fun _ _ h => h.elim) (fun r7 τ7 hp => ?_)
  refine gz_norm (st' := [.int r7]) (cells' := 0) (slots' := 0) rfl rfl rfl ?_
  refine gz_istore_n K [(3, .int r7), (0, .ref (ad 12)), (1, .ref (ad k1)), (2, .int x2)] dX2_build_10 (by decide) rfl ?_
  refine gz_aload_n K dX2_build_11 1 rfl ?_
  refine gz_ldc K zq2_34 dX2_build_12 ?_
  refine gz_iconst K (v := (0 : Int32)) dX2_build_14 (by decide) ?_
  refine gz_callV K hex (c_X2_reach K.2.2.2.2.2 K.2.2.1 hp) cf_X2_reach zq2_43 (by decide) (ce_12 _ _ _ _ _ _) rfl dX2_build_15 rfl rfl (Nat.le_of_ble_eq_true rfl) ⟨Nat.le_of_ble_eq_true rfl, Nat.le_of_ble_eq_true rfl⟩ ⟨Nat.le_of_ble_eq_true rfl, Nat.le_of_ble_eq_true rfl⟩ (Nat.le_of_ble_eq_true rfl) (Nat.le_of_ble_eq_true rfl) (fun _ _ h => h.elim) (fun _ τ15 hp => ?_)
  refine gz_norm (st' := []) (cells' := 0) (slots' := 0) rfl rfl rfl ?_
  refine gz_iconst K (v := (0 : Int32)) dX2_build_18 (by decide) ?_
  refine gz_istore K [(4, .int (0 : Int32)), (3, .int r7), (0, .ref (ad 12)), (1, .ref (ad k1)), (2, .int x2)] dX2_build_19 (by decide) rfl ?_
  refine gz_iconst K (v := (0 : Int32)) dX2_build_21 (by decide) ?_
  refine gz_istore K [(5, .int (0 : Int32)), (4, .int (0 : Int32)), (3, .int r7), (0, .ref (ad 12)), (1, .ref (ad k1)), (2, .int x2)] dX2_build_22 (by decide) rfl ?_
  refine gz_sub [3, 2, 1, 0] rfl ?_
  have ll_24 : ∀ (n_24 : Nat) (σ : Dz) (y3 : Int32) (y4 : Int32) (y5 : Int32) , L_X2_build_24 k1 post  n_24 σ y3 y4 y5 → Gz p l e r_X2_build s m args below meth c D ad ty 9 0 0 (Ez below D ad ty nV0 (fun _ τ => post τ) (fun _ _ => False) args s 0 0) σ 24 [(0, .ref (ad 12)), (3, .int y3), (4, .int y4), (5, .int y5)] [] := by
    intro n_24; induction n_24 with
    | zero => intro σ y3 y4 y5 hp; exact False.elim hp
    | succ n_24 ih_24 =>
      intro σ y3 y4 y5 hp
      have hp : B_X2_build_24 k1 post  (L_X2_build_24 k1 post  n_24) σ y3 y4 y5 := hp
      unfold B_X2_build_24 at hp
      have bb_115 : ∀ (σ : Dz) (y3 : Int32) (y5 : Int32) (y6 : Int32) , B_X2_build_115 k1 post (L_X2_build_24 k1 post  n_24) σ y3 y5 y6 → Gz p l e r_X2_build s m args below meth c D ad ty 9 0 0 (Ez below D ad ty nV0 (fun _ τ => post τ) (fun _ _ => False) args s 0 0) σ 115 [(0, .ref (ad 12)), (3, .int y3), (5, .int y5), (6, .int y6)] [] := by
        intro σ y3 y5 y6 hp
        unfold B_X2_build_115 at hp
        refine gz_aload_n K dX2_build_115 0 rfl ?_
        refine gz_get K (v := .ref (ad 15)) (by decide) (ce_12 _ _ _ _ _ _) rfl inz_X2 2 (by decide) zq1_138 rfl dX2_build_116 ?_
        refine gz_iload K dX2_build_119 2 rfl ?_
        refine gz_iconst K (v := (1 : Int32)) dX2_build_121 (by decide) ?_
        refine gz_iadd K dX2_build_122 ?_
        refine gz_iload K dX2_build_123 3 rfl ?_
        obtain ⟨h, hp⟩ := hp
        refine gz_iast K (x := y6) (by decide) (ce_15 ad ty) h dX2_build_125 ?_
        refine gz_aload_n K dX2_build_126 0 rfl ?_
        refine gz_iload K dX2_build_127 2 rfl ?_
        refine gz_put K (x := y5) (by decide) (ce_12 _ _ _ _ _ _) rfl inz_X2 tyX2 tyX2_ok nmX2 6 (by decide) zq1_142 rfl (tyX2_ok _ (by decide)) rfl rfl (Nat.le_of_ble_eq_true rfl) peX2_6 dX2_build_129 ?_
        refine gz_iload K dX2_build_132 3 rfl ?_
        refine gz_istore K [(4, .int y6), (0, .ref (ad 12)), (3, .int y3), (5, .int y5), (6, .int y6)] dX2_build_134 (by decide) rfl ?_
        refine gz_iinc K (v := (y5 + 1)) [(5, .int (y5 + 1)), (4, .int y6), (0, .ref (ad 12)), (3, .int y3), (6, .int y6)] dX2_build_136 3 rfl (by first | rfl | decide) (by decide) rfl ?_
        refine gz_goto K 24 dX2_build_139 (by decide) ?_
        refine gz_sub [2, 3, 1, 0] rfl ?_
        exact ih_24 (sz_i (sz_i σ 15 ((y5 + (1 : Int32))).toNatClampNeg y6) 12 6 y5) y3 y6 (y5 + 1)  hp
      refine gz_iload K dX2_build_24 3 rfl ?_
      refine gz_sipush K (v := (5040 : Int32)) dX2_build_26 (by decide) ?_
      refine gz_icmp_ge K 142 dX2_build_29 (by decide) (fun h => ?_) (fun h => ?_)
      · have hp := hp.1 h
        exact gz_vret K hr hp dX2_build_142 (Nat.le_of_ble_eq_true rfl) (Nat.le_of_ble_eq_true rfl)
      · have hp := hp.2 h
        refine gz_iload K dX2_build_32 2 rfl ?_
        refine gz_aload_n K dX2_build_34 0 rfl ?_
        refine gz_get K (v := .int (gz_i σ 12 5)) (by decide) (ce_12 _ _ _ _ _ _) rfl inz_X2 5 (by decide) zq1_141 rfl dX2_build_35 ?_
        refine gz_icmp_ge K 142 dX2_build_38 (by decide) (fun h => ?_) (fun h => ?_)
        · have hp := hp.1 h
          exact gz_vret K hr hp dX2_build_142 (Nat.le_of_ble_eq_true rfl) (Nat.le_of_ble_eq_true rfl)
        · have hp := hp.2 h
          refine gz_aload_n K dX2_build_41 0 rfl ?_
          refine gz_get K (v := .int (gz_i σ 12 5)) (by decide) (ce_12 _ _ _ _ _ _) rfl inz_X2 5 (by decide) zq1_141 rfl dX2_build_42 ?_
          refine gz_istore K [(6, .int (gz_i σ 12 5)), (0, .ref (ad 12)), (3, .int y3), (4, .int y4), (5, .int y5)] dX2_build_45 (by decide) rfl ?_
          refine gz_iload K dX2_build_47 3 rfl ?_
          refine gz_istore K [(7, .int y4), (6, .int (gz_i σ 12 5)), (0, .ref (ad 12)), (3, .int y3), (4, .int y4), (5, .int y5)] dX2_build_49 (by decide) rfl ?_
          refine gz_sub [2, 3, 5, 1, 0] rfl ?_
          have ll_51 : ∀ (n_51 : Nat) (σ : Dz) (y3 : Int32) (y5 : Int32) (y6 : Int32) (y7 : Int32) , L_X2_build_51 k1 post (L_X2_build_24 k1 post  n_24) n_51 σ y3 y5 y6 y7 → Gz p l e r_X2_build s m args below meth c D ad ty 9 0 0 (Ez below D ad ty nV0 (fun _ τ => post τ) (fun _ _ => False) args s 0 0) σ 51 [(0, .ref (ad 12)), (3, .int y3), (5, .int y5), (6, .int y6), (7, .int y7)] [] := by
            intro n_51; induction n_51 with
            | zero => intro σ y3 y5 y6 y7 hp; exact False.elim hp
            | succ n_51 ih_51 =>
              intro σ y3 y5 y6 y7 hp
              have hp : B_X2_build_51 k1 post (L_X2_build_24 k1 post  n_24) (L_X2_build_51 k1 post (L_X2_build_24 k1 post  n_24) n_51) σ y3 y5 y6 y7 := hp
              unfold B_X2_build_51 at hp
              refine gz_iload K dX2_build_51 4 rfl ?_
              refine gz_iload K dX2_build_53 3 rfl ?_
              refine gz_icmp_ge K 115 dX2_build_55 (by decide) (fun h => ?_) (fun h => ?_)
              · have hp := hp.1 h
                refine gz_sub [0, 1, 2, 3] rfl ?_
                exact bb_115 σ y3 y5 y6  hp
              · have hp := hp.2 h
                refine gz_aload_n K dX2_build_58 0 rfl ?_
                refine gz_get K (v := .int (gz_i σ 12 5)) (by decide) (ce_12 _ _ _ _ _ _) rfl inz_X2 5 (by decide) zq1_141 rfl dX2_build_59 ?_
                refine gz_iload_n K dX2_build_62 1 rfl ?_
                refine gz_icmp_ge K 115 dX2_build_63 (by decide) (fun h => ?_) (fun h => ?_)
                · have hp := hp.1 h
                  refine gz_sub [0, 1, 2, 3] rfl ?_
                  exact bb_115 σ y3 y5 y6  hp
                · have hp := hp.2 h
                  refine gz_iconst K (v := (0 : Int32)) dX2_build_66 (by decide) ?_
                  refine gz_istore K [(8, .int (0 : Int32)), (0, .ref (ad 12)), (3, .int y3), (5, .int y5), (6, .int y6), (7, .int y7)] dX2_build_67 (by decide) rfl ?_
                  refine gz_sub [1, 2, 3, 4, 5, 0] rfl ?_
                  have ll_69 : ∀ (n_69 : Nat) (σ : Dz) (y3 : Int32) (y5 : Int32) (y6 : Int32) (y7 : Int32) (y8 : Int32) , L_X2_build_69 k1 post (L_X2_build_24 k1 post  n_24) (L_X2_build_51 k1 post (L_X2_build_24 k1 post  n_24) n_51) n_69 σ y3 y5 y6 y7 y8 → Gz p l e r_X2_build s m args below meth c D ad ty 9 0 0 (Ez below D ad ty nV0 (fun _ τ => post τ) (fun _ _ => False) args s 0 0) σ 69 [(0, .ref (ad 12)), (3, .int y3), (5, .int y5), (6, .int y6), (7, .int y7), (8, .int y8)] [] := by
                    intro n_69; induction n_69 with
                    | zero => intro σ y3 y5 y6 y7 y8 hp; exact False.elim hp
                    | succ n_69 ih_69 =>
                      intro σ y3 y5 y6 y7 y8 hp
                      have hp : B_X2_build_69 k1 post (L_X2_build_24 k1 post  n_24) (L_X2_build_51 k1 post (L_X2_build_24 k1 post  n_24) n_51) (L_X2_build_69 k1 post (L_X2_build_24 k1 post  n_24) (L_X2_build_51 k1 post (L_X2_build_24 k1 post  n_24) n_51) n_69) σ y3 y5 y6 y7 y8 := hp
                      unfold B_X2_build_69 at hp
                      refine gz_iload K dX2_build_69 5 rfl ?_
                      refine gz_aload_n K dX2_build_71 0 rfl ?_
                      refine gz_get K (v := .int (gz_i σ 12 4)) (by decide) (ce_12 _ _ _ _ _ _) rfl inz_X2 4 (by decide) zq1_140 rfl dX2_build_72 ?_
                      refine gz_icmp_ge K 109 dX2_build_75 (by decide) (fun h => ?_) (fun h => ?_)
                      · have hp := hp.1 h
                        refine gz_iinc K (v := (y7 + 1)) [(7, .int (y7 + 1)), (0, .ref (ad 12)), (3, .int y3), (5, .int y5), (6, .int y6), (8, .int y8)] dX2_build_109 4 rfl (by first | rfl | decide) (by decide) rfl ?_
                        refine gz_goto K 51 dX2_build_112 (by decide) ?_
                        refine gz_sub [1, 2, 3, 4, 0] rfl ?_
                        exact ih_51 σ y3 y5 y6 (y7 + 1)  hp
                      · have hp := hp.2 h
                        refine gz_aload_n K dX2_build_78 0 rfl ?_
                        refine gz_aload_n K dX2_build_79 0 rfl ?_
                        refine gz_get K (v := .ref (ad 14)) (by decide) (ce_12 _ _ _ _ _ _) rfl inz_X2 1 (by decide) zq1_137 rfl dX2_build_80 ?_
                        refine gz_iload K dX2_build_83 4 rfl ?_
                        obtain ⟨h, hp⟩ := hp
                        refine gz_iald K (by decide) (ce_14 _ _ _ _ _ _) h dX2_build_85 ?_
                        refine gz_aload_n K dX2_build_86 0 rfl ?_
                        refine gz_get K (v := .ref (ad 16)) (by decide) (ce_12 _ _ _ _ _ _) rfl inz_X2 3 (by decide) zq1_139 rfl dX2_build_87 ?_
                        refine gz_iload K dX2_build_90 5 rfl ?_
                        obtain ⟨h, hp⟩ := hp
                        refine gz_iald K (by decide) (ce_16 _ _ _ _ _ _) h dX2_build_92 ?_
                        refine gz_callS K hex (c_X3_then K.2.2.2.2.2 K.2.2.1 hp) cf_X3_then zq2_59 dX2_build_93 rfl rfl (Nat.le_of_ble_eq_true rfl) ⟨Nat.le_of_ble_eq_true rfl, Nat.le_of_ble_eq_true rfl⟩ ⟨Nat.le_of_ble_eq_true rfl, Nat.le_of_ble_eq_true rfl⟩ (Nat.le_of_ble_eq_true rfl) (Nat.le_of_ble_eq_true rfl) (fun _ _ h => h.elim) (fun r93 τ hp => ?_)
                        obtain ⟨rfl, hp⟩ := hp
                        refine gz_norm (st' := [.int r93, .ref (ad 12)]) (cells' := 0) (slots' := 0) rfl rfl rfl ?_
                        refine gz_iload K dX2_build_96 2 rfl ?_
                        refine gz_iconst K (v := (1 : Int32)) dX2_build_98 (by decide) ?_
                        refine gz_iadd K dX2_build_99 ?_
                        refine gz_callV K hex (c_X2_reach K.2.2.2.2.2 K.2.2.1 hp) cf_X2_reach zq2_43 (by decide) (ce_12 _ _ _ _ _ _) rfl dX2_build_100 rfl rfl (Nat.le_of_ble_eq_true rfl) ⟨Nat.le_of_ble_eq_true rfl, Nat.le_of_ble_eq_true rfl⟩ ⟨Nat.le_of_ble_eq_true rfl, Nat.le_of_ble_eq_true rfl⟩ (Nat.le_of_ble_eq_true rfl) (Nat.le_of_ble_eq_true rfl) (fun _ _ h => h.elim) (fun _ τ100 hp => ?_)
                        refine gz_norm (st' := []) (cells' := 0) (slots' := 0) rfl rfl rfl ?_
                        refine gz_iinc K (v := (y8 + 1)) [(8, .int (y8 + 1)), (0, .ref (ad 12)), (3, .int y3), (5, .int y5), (6, .int y6), (7, .int y7)] dX2_build_103 5 rfl (by first | rfl | decide) (by decide) rfl ?_
                        refine gz_goto K 69 dX2_build_106 (by decide) ?_
                        refine gz_sub [1, 2, 3, 4, 5, 0] rfl ?_
                        exact ih_69 τ100 y3 y5 y6 y7 (y8 + 1)  hp
                  obtain ⟨n, hp⟩ := hp
                  exact ll_69 n σ y3 y5 y6 y7 (0 : Int32)  hp
          obtain ⟨n, hp⟩ := hp
          exact ll_51 n σ y3 y5 (gz_i σ 12 5) y4  hp
  obtain ⟨n, hp⟩ := hp
  exact ll_24 n τ15 r7 (0 : Int32) (0 : Int32)  hp
set_option maxRecDepth 100000 in
set_option maxHeartbeats 4000000 in
theorem c_X2_levelOf {l : Launch} {D : va_G} {ad : Nat → Nat} {ty : Nat → ClassId} (hl : l.stackTraces = false) (hj : ∀ i j, i < 68 → j < 68 → ad i = ad j → i = j) {σ : Dz} {x1 : Int32} {post : Int32 → Prop} (hp : P_X2_levelOf σ x1 post) : Mz l D ad ty yX2_levelOf cX2_levelOf 3 (some .int) r_X2_levelOf nI0 σ [.ref (ad 12), .int x1] (fun r τ => σ = τ ∧ post r) (fun _ _ => False) := by
  refine mz_of (by decide) hl hj (Nat.le_of_ble_eq_true rfl) ?_
  intro p e s m args below meth c K hex hr
  unfold P_X2_levelOf at hp
  show Gz p l e r_X2_levelOf s m args below meth c D ad ty 3 0 0 (Ez below D ad ty nI0 (fun r τ => σ = τ ∧ post r) (fun _ _ => False) args s 0 0) σ 0 [(0, .ref (ad 12)), (1, .int x1)] []
  refine gz_iload_n K dX2_levelOf_0 1 rfl ?_
  refine gz_callS K hex (c_X3_rankOf K.2.2.2.2.2 K.2.2.1 hp) cf_X3_rankOf zq2_47 dX2_levelOf_1 rfl rfl (Nat.le_of_ble_eq_true rfl) ⟨Nat.le_of_ble_eq_true rfl, Nat.le_of_ble_eq_true rfl⟩ ⟨Nat.le_of_ble_eq_true rfl, Nat.le_of_ble_eq_true rfl⟩ (Nat.le_of_ble_eq_true rfl) (Nat.le_of_ble_eq_true rfl) (fun _ _ h => h.elim) (fun r1 τ hp => ?_)
  obtain ⟨rfl, hp⟩ := hp
  refine gz_norm (st' := [.int r1]) (cells' := 0) (slots' := 0) rfl rfl rfl ?_
  refine gz_istore_n K [(2, .int r1), (0, .ref (ad 12)), (1, .int x1)] dX2_levelOf_4 (by decide) rfl ?_
  refine gz_iload_n K dX2_levelOf_5 0 rfl ?_
  refine gz_if_lt K 27 dX2_levelOf_6 (by decide) (fun h => ?_) (fun h => ?_)
  · have hp := hp.1 h
    refine gz_iconst K (v := (-1 : Int32)) dX2_levelOf_27 (by decide) ?_
    exact gz_iret K hr ⟨rfl, hp⟩ dX2_levelOf_28 (Nat.le_of_ble_eq_true rfl) (Nat.le_of_ble_eq_true rfl)
  · have hp := hp.2 h
    refine gz_iload_n K dX2_levelOf_9 0 rfl ?_
    refine gz_aload_n K dX2_levelOf_10 1 rfl ?_
    refine gz_get K (v := .ref (ad 13)) (by decide) (ce_12 _ _ _ _ _ _) rfl inz_X2 0 (by decide) zq1_136 rfl dX2_levelOf_11 ?_
    refine gz_alen K (v := (5040 : Int32)) 3 rfl (by decide) (ce_13 _ _ _ _ _ _) (by decide) dX2_levelOf_14 ?_
    refine gz_icmp_ge K 27 dX2_levelOf_15 (by decide) (fun h => ?_) (fun h => ?_)
    · have hp := hp.1 h
      refine gz_iconst K (v := (-1 : Int32)) dX2_levelOf_27 (by decide) ?_
      exact gz_iret K hr ⟨rfl, hp⟩ dX2_levelOf_28 (Nat.le_of_ble_eq_true rfl) (Nat.le_of_ble_eq_true rfl)
    · have hp := hp.2 h
      refine gz_aload_n K dX2_levelOf_18 1 rfl ?_
      refine gz_get K (v := .ref (ad 13)) (by decide) (ce_12 _ _ _ _ _ _) rfl inz_X2 0 (by decide) zq1_136 rfl dX2_levelOf_19 ?_
      refine gz_iload_n K dX2_levelOf_22 0 rfl ?_
      obtain ⟨h, hp⟩ := hp
      refine gz_iald K (by decide) (ce_13 _ _ _ _ _ _) h dX2_levelOf_23 ?_
      refine gz_goto K 28 dX2_levelOf_24 (by decide) ?_
      exact gz_iret K hr ⟨rfl, hp⟩ dX2_levelOf_28 (Nat.le_of_ble_eq_true rfl) (Nat.le_of_ble_eq_true rfl)
set_option maxRecDepth 100000 in
set_option maxHeartbeats 4000000 in
theorem c_X2_size {l : Launch} {D : va_G} {ad : Nat → Nat} {ty : Nat → ClassId} (hl : l.stackTraces = false) (hj : ∀ i j, i < 68 → j < 68 → ad i = ad j → i = j) {σ : Dz} {post : Int32 → Prop} (hp : P_X2_size σ post) : Mz l D ad ty yX2_size cX2_size 1 (some .int) r_X2_size nI0 σ [.ref (ad 12)] (fun r τ => σ = τ ∧ post r) (fun _ _ => False) := by
  refine mz_of (by decide) hl hj (Nat.le_of_ble_eq_true rfl) ?_
  intro p e s m args below meth c K hex hr
  unfold P_X2_size at hp
  show Gz p l e r_X2_size s m args below meth c D ad ty 1 0 0 (Ez below D ad ty nI0 (fun r τ => σ = τ ∧ post r) (fun _ _ => False) args s 0 0) σ 0 [(0, .ref (ad 12))] []
  refine gz_aload_n K dX2_size_0 0 rfl ?_
  refine gz_get K (v := .int (gz_i σ 12 5)) (by decide) (ce_12 _ _ _ _ _ _) rfl inz_X2 5 (by decide) zq1_141 rfl dX2_size_1 ?_
  exact gz_iret K hr ⟨rfl, hp⟩ dX2_size_4 (Nat.le_of_ble_eq_true rfl) (Nat.le_of_ble_eq_true rfl)
set_option maxRecDepth 100000 in
set_option maxHeartbeats 4000000 in
theorem c_X2_lastLevel {l : Launch} {D : va_G} {ad : Nat → Nat} {ty : Nat → ClassId} (hl : l.stackTraces = false) (hj : ∀ i j, i < 68 → j < 68 → ad i = ad j → i = j) {σ : Dz} {post : Int32 → Prop} (hp : P_X2_lastLevel σ post) : Mz l D ad ty yX2_lastLevel cX2_lastLevel 1 (some .int) r_X2_lastLevel nI0 σ [.ref (ad 12)] (fun r τ => σ = τ ∧ post r) (fun _ _ => False) := by
  refine mz_of (by decide) hl hj (Nat.le_of_ble_eq_true rfl) ?_
  intro p e s m args below meth c K hex hr
  unfold P_X2_lastLevel at hp
  show Gz p l e r_X2_lastLevel s m args below meth c D ad ty 1 0 0 (Ez below D ad ty nI0 (fun r τ => σ = τ ∧ post r) (fun _ _ => False) args s 0 0) σ 0 [(0, .ref (ad 12))] []
  refine gz_aload_n K dX2_lastLevel_0 0 rfl ?_
  refine gz_get K (v := .int (gz_i σ 12 6)) (by decide) (ce_12 _ _ _ _ _ _) rfl inz_X2 6 (by decide) zq1_142 rfl dX2_lastLevel_1 ?_
  exact gz_iret K hr ⟨rfl, hp⟩ dX2_lastLevel_4 (Nat.le_of_ble_eq_true rfl) (Nat.le_of_ble_eq_true rfl)
set_option maxRecDepth 100000 in
set_option maxHeartbeats 4000000 in
theorem c_X2_sizeOfLevel {l : Launch} {D : va_G} {ad : Nat → Nat} {ty : Nat → ClassId} (hl : l.stackTraces = false) (hj : ∀ i j, i < 68 → j < 68 → ad i = ad j → i = j) {σ : Dz} {x1 : Int32} {post : Int32 → Prop} (hp : P_X2_sizeOfLevel σ x1 post) : Mz l D ad ty yX2_sizeOfLevel cX2_sizeOfLevel 2 (some .int) r_X2_sizeOfLevel nI0 σ [.ref (ad 12), .int x1] (fun r τ => σ = τ ∧ post r) (fun _ _ => False) := by
  refine mz_of (by decide) hl hj (Nat.le_of_ble_eq_true rfl) ?_
  intro p e s m args below meth c K hex hr
  unfold P_X2_sizeOfLevel at hp
  show Gz p l e r_X2_sizeOfLevel s m args below meth c D ad ty 2 0 0 (Ez below D ad ty nI0 (fun r τ => σ = τ ∧ post r) (fun _ _ => False) args s 0 0) σ 0 [(0, .ref (ad 12)), (1, .int x1)] []
  refine gz_iload_n K dX2_sizeOfLevel_0 1 rfl ?_
  refine gz_if_lt K 30 dX2_sizeOfLevel_1 (by decide) (fun h => ?_) (fun h => ?_)
  · have hp := hp.1 h
    refine gz_iconst K (v := (0 : Int32)) dX2_sizeOfLevel_30 (by decide) ?_
    exact gz_iret K hr ⟨rfl, hp⟩ dX2_sizeOfLevel_31 (Nat.le_of_ble_eq_true rfl) (Nat.le_of_ble_eq_true rfl)
  · have hp := hp.2 h
    refine gz_iload_n K dX2_sizeOfLevel_4 1 rfl ?_
    refine gz_aload_n K dX2_sizeOfLevel_5 0 rfl ?_
    refine gz_get K (v := .int (gz_i σ 12 6)) (by decide) (ce_12 _ _ _ _ _ _) rfl inz_X2 6 (by decide) zq1_142 rfl dX2_sizeOfLevel_6 ?_
    refine gz_icmp_gt K 30 dX2_sizeOfLevel_9 (by decide) (fun h => ?_) (fun h => ?_)
    · have hp := hp.1 h
      refine gz_iconst K (v := (0 : Int32)) dX2_sizeOfLevel_30 (by decide) ?_
      exact gz_iret K hr ⟨rfl, hp⟩ dX2_sizeOfLevel_31 (Nat.le_of_ble_eq_true rfl) (Nat.le_of_ble_eq_true rfl)
    · have hp := hp.2 h
      refine gz_aload_n K dX2_sizeOfLevel_12 0 rfl ?_
      refine gz_get K (v := .ref (ad 15)) (by decide) (ce_12 _ _ _ _ _ _) rfl inz_X2 2 (by decide) zq1_138 rfl dX2_sizeOfLevel_13 ?_
      refine gz_iload_n K dX2_sizeOfLevel_16 1 rfl ?_
      refine gz_iconst K (v := (1 : Int32)) dX2_sizeOfLevel_17 (by decide) ?_
      refine gz_iadd K dX2_sizeOfLevel_18 ?_
      obtain ⟨h, hp⟩ := hp
      refine gz_iald K (by decide) (ce_15 _ _ _ _ _ _) h dX2_sizeOfLevel_19 ?_
      refine gz_aload_n K dX2_sizeOfLevel_20 0 rfl ?_
      refine gz_get K (v := .ref (ad 15)) (by decide) (ce_12 _ _ _ _ _ _) rfl inz_X2 2 (by decide) zq1_138 rfl dX2_sizeOfLevel_21 ?_
      refine gz_iload_n K dX2_sizeOfLevel_24 1 rfl ?_
      obtain ⟨h, hp⟩ := hp
      refine gz_iald K (by decide) (ce_15 _ _ _ _ _ _) h dX2_sizeOfLevel_25 ?_
      refine gz_isub K dX2_sizeOfLevel_26 ?_
      refine gz_goto K 31 dX2_sizeOfLevel_27 (by decide) ?_
      exact gz_iret K hr ⟨rfl, hp⟩ dX2_sizeOfLevel_31 (Nat.le_of_ble_eq_true rfl) (Nat.le_of_ble_eq_true rfl)
set_option maxRecDepth 100000 in
set_option maxHeartbeats 4000000 in
theorem c_X2_sumOfDepths {l : Launch} {D : va_G} {ad : Nat → Nat} {ty : Nat → ClassId} (hl : l.stackTraces = false) (hj : ∀ i j, i < 68 → j < 68 → ad i = ad j → i = j) {σ : Dz} {post : Int32 → Prop} (hp : P_X2_sumOfDepths σ post) : Mz l D ad ty yX2_sumOfDepths cX2_sumOfDepths 3 (some .int) r_X2_sumOfDepths nI0 σ [.ref (ad 12)] (fun r τ => σ = τ ∧ post r) (fun _ _ => False) := by
  refine mz_of (by decide) hl hj (Nat.le_of_ble_eq_true rfl) ?_
  intro p e s m args below meth c K hex hr
  unfold P_X2_sumOfDepths at hp
  show Gz p l e r_X2_sumOfDepths s m args below meth c D ad ty 3 0 0 (Ez below D ad ty nI0 (fun r τ => σ = τ ∧ post r) (fun _ _ => False) args s 0 0) σ 0 [(0, .ref (ad 12))] []
  refine gz_iconst K (v := (0 : Int32)) dX2_sumOfDepths_0 (by decide) ?_
  refine gz_istore_n K [(1, .int (0 : Int32)), (0, .ref (ad 12))] dX2_sumOfDepths_1 (by decide) rfl ?_
  refine gz_iconst K (v := (1 : Int32)) dX2_sumOfDepths_2 (by decide) ?_
  refine gz_istore_n K [(2, .int (1 : Int32)), (1, .int (0 : Int32)), (0, .ref (ad 12))] dX2_sumOfDepths_3 (by decide) rfl ?_
  refine gz_sub [2, 1, 0] rfl ?_
  have ll_4 : ∀ (n_4 : Nat) (y1 : Int32) (y2 : Int32) , L_X2_sumOfDepths_4 σ post  n_4 y1 y2 → Gz p l e r_X2_sumOfDepths s m args below meth c D ad ty 3 0 0 (Ez below D ad ty nI0 (fun r τ => σ = τ ∧ post r) (fun _ _ => False) args s 0 0) σ 4 [(0, .ref (ad 12)), (1, .int y1), (2, .int y2)] [] := by
    intro n_4; induction n_4 with
    | zero => intro y1 y2 hp; exact False.elim hp
    | succ n_4 ih_4 =>
      intro y1 y2 hp
      have hp : B_X2_sumOfDepths_4 σ post  (L_X2_sumOfDepths_4 σ post  n_4) y1 y2 := hp
      unfold B_X2_sumOfDepths_4 at hp
      refine gz_iload_n K dX2_sumOfDepths_4 2 rfl ?_
      refine gz_aload_n K dX2_sumOfDepths_5 0 rfl ?_
      refine gz_get K (v := .int (gz_i σ 12 6)) (by decide) (ce_12 _ _ _ _ _ _) rfl inz_X2 6 (by decide) zq1_142 rfl dX2_sumOfDepths_6 ?_
      refine gz_icmp_gt K 28 dX2_sumOfDepths_9 (by decide) (fun h => ?_) (fun h => ?_)
      · have hp := hp.1 h
        refine gz_iload_n K dX2_sumOfDepths_28 1 rfl ?_
        exact gz_iret K hr ⟨rfl, hp⟩ dX2_sumOfDepths_29 (Nat.le_of_ble_eq_true rfl) (Nat.le_of_ble_eq_true rfl)
      · have hp := hp.2 h
        refine gz_iload_n K dX2_sumOfDepths_12 1 rfl ?_
        refine gz_iload_n K dX2_sumOfDepths_13 2 rfl ?_
        refine gz_aload_n K dX2_sumOfDepths_14 0 rfl ?_
        refine gz_iload_n K dX2_sumOfDepths_15 2 rfl ?_
        refine gz_callV K hex (c_X2_sizeOfLevel K.2.2.2.2.2 K.2.2.1 hp) cf_X2_sizeOfLevel zq2_90 (by decide) (ce_12 _ _ _ _ _ _) rfl dX2_sumOfDepths_16 rfl rfl (Nat.le_of_ble_eq_true rfl) ⟨Nat.le_of_ble_eq_true rfl, Nat.le_of_ble_eq_true rfl⟩ ⟨Nat.le_of_ble_eq_true rfl, Nat.le_of_ble_eq_true rfl⟩ (Nat.le_of_ble_eq_true rfl) (Nat.le_of_ble_eq_true rfl) (fun _ _ h => h.elim) (fun r16 τ hp => ?_)
        obtain ⟨rfl, hp⟩ := hp
        refine gz_norm (st' := [.int r16, .int y2, .int y1]) (cells' := 0) (slots' := 0) rfl rfl rfl ?_
        refine gz_imul K dX2_sumOfDepths_19 ?_
        refine gz_iadd K dX2_sumOfDepths_20 ?_
        refine gz_istore_n K [(1, .int (y1 + (y2 * r16))), (0, .ref (ad 12)), (2, .int y2)] dX2_sumOfDepths_21 (by decide) rfl ?_
        refine gz_iinc K (v := (y2 + 1)) [(2, .int (y2 + 1)), (1, .int (y1 + (y2 * r16))), (0, .ref (ad 12))] dX2_sumOfDepths_22 2 rfl (by first | rfl | decide) (by decide) rfl ?_
        refine gz_goto K 4 dX2_sumOfDepths_25 (by decide) ?_
        refine gz_sub [2, 1, 0] rfl ?_
        exact ih_4 (y1 + (y2 * r16)) (y2 + 1)  hp
  obtain ⟨n, hp⟩ := hp
  exact ll_4 n (0 : Int32) (1 : Int32)  hp
set_option maxRecDepth 100000 in
set_option maxHeartbeats 4000000 in
theorem c_X3_inverseOf {l : Launch} {D : va_G} {ad : Nat → Nat} {ty : Nat → ClassId} (hl : l.stackTraces = false) (hj : ∀ i j, i < 68 → j < 68 → ad i = ad j → i = j) {σ : Dz} {x0 : Int32} {post : Int32 → Prop} (hp : P_X3_inverseOf x0 post) : Mz l D ad ty yX3_inverseOf cX3_inverseOf 3 (some .int) r_X3_inverseOf nI0 σ [.int x0] (fun r τ => σ = τ ∧ post r) (fun _ _ => False) := by
  refine mz_of (by decide) hl hj (Nat.le_of_ble_eq_true rfl) ?_
  intro p e s m args below meth c K hex hr
  unfold P_X3_inverseOf at hp
  show Gz p l e r_X3_inverseOf s m args below meth c D ad ty 3 0 0 (Ez below D ad ty nI0 (fun r τ => σ = τ ∧ post r) (fun _ _ => False) args s 0 0) σ 0 [(0, .int x0)] []
  refine gz_iconst K (v := (0 : Int32)) dX3_inverseOf_0 (by decide) ?_
  refine gz_istore_n K [(1, .int (0 : Int32)), (0, .int x0)] dX3_inverseOf_1 (by decide) rfl ?_
  refine gz_iconst K (v := (0 : Int32)) dX3_inverseOf_2 (by decide) ?_
  refine gz_istore_n K [(2, .int (0 : Int32)), (1, .int (0 : Int32)), (0, .int x0)] dX3_inverseOf_3 (by decide) rfl ?_
  refine gz_sub [2, 1, 0] rfl ?_
  have ll_4 : ∀ (n_4 : Nat) (y0 : Int32) (y1 : Int32) (y2 : Int32) , L_X3_inverseOf_4 post  n_4 y0 y1 y2 → Gz p l e r_X3_inverseOf s m args below meth c D ad ty 3 0 0 (Ez below D ad ty nI0 (fun r τ => σ = τ ∧ post r) (fun _ _ => False) args s 0 0) σ 4 [(0, .int y0), (1, .int y1), (2, .int y2)] [] := by
    intro n_4; induction n_4 with
    | zero => intro y0 y1 y2 hp; exact False.elim hp
    | succ n_4 ih_4 =>
      intro y0 y1 y2 hp
      have hp : B_X3_inverseOf_4 post  (L_X3_inverseOf_4 post  n_4) y0 y1 y2 := hp
      unfold B_X3_inverseOf_4 at hp
      refine gz_iload_n K dX3_inverseOf_4 2 rfl ?_
      refine gz_bipush K (v := (7 : Int32)) dX3_inverseOf_5 (by decide) ?_
      refine gz_icmp_ge K 28 dX3_inverseOf_7 (by decide) (fun h => ?_) (fun h => ?_)
      · have hp := hp.1 h
        refine gz_iload_n K dX3_inverseOf_28 1 rfl ?_
        exact gz_iret K hr ⟨rfl, hp⟩ dX3_inverseOf_29 (Nat.le_of_ble_eq_true rfl) (Nat.le_of_ble_eq_true rfl)
      · have hp := hp.2 h
        refine gz_iload_n K dX3_inverseOf_10 1 rfl ?_
        refine gz_iload_n K dX3_inverseOf_11 2 rfl ?_
        refine gz_iconst K (v := (3 : Int32)) dX3_inverseOf_12 (by decide) ?_
        refine gz_iload_n K dX3_inverseOf_13 0 rfl ?_
        refine gz_iload_n K dX3_inverseOf_14 2 rfl ?_
        refine gz_callS K hex (c_X3_imageOf K.2.2.2.2.2 K.2.2.1 hp) cf_X3_imageOf zq2_50 dX3_inverseOf_15 rfl rfl (Nat.le_of_ble_eq_true rfl) ⟨Nat.le_of_ble_eq_true rfl, Nat.le_of_ble_eq_true rfl⟩ ⟨Nat.le_of_ble_eq_true rfl, Nat.le_of_ble_eq_true rfl⟩ (Nat.le_of_ble_eq_true rfl) (Nat.le_of_ble_eq_true rfl) (fun _ _ h => h.elim) (fun r15 τ hp => ?_)
        obtain ⟨rfl, hp⟩ := hp
        refine gz_norm (st' := [.int r15, .int (3 : Int32), .int y2, .int y1]) (cells' := 0) (slots' := 0) rfl rfl rfl ?_
        refine gz_imul K dX3_inverseOf_18 ?_
        refine gz_ishl K dX3_inverseOf_19 ?_
        refine gz_ior K dX3_inverseOf_20 ?_
        refine gz_istore_n K [(1, .int (y1 ||| (y2 <<< (((3 : Int32) * r15) &&& 31)))), (0, .int y0), (2, .int y2)] dX3_inverseOf_21 (by decide) rfl ?_
        refine gz_iinc K (v := (y2 + 1)) [(2, .int (y2 + 1)), (1, .int (y1 ||| (y2 <<< (((3 : Int32) * r15) &&& 31)))), (0, .int y0)] dX3_inverseOf_22 2 rfl (by first | rfl | decide) (by decide) rfl ?_
        refine gz_goto K 4 dX3_inverseOf_25 (by decide) ?_
        refine gz_sub [2, 1, 0] rfl ?_
        exact ih_4 y0 (y1 ||| (y2 <<< (((3 : Int32) * r15) &&& 31))) (y2 + 1)  hp
  obtain ⟨n, hp⟩ := hp
  exact ll_4 n x0 (0 : Int32) (0 : Int32)  hp
set_option maxRecDepth 100000 in
set_option maxHeartbeats 4000000 in
theorem c_X3_differences {l : Launch} {D : va_G} {ad : Nat → Nat} {ty : Nat → ClassId} (hl : l.stackTraces = false) (hj : ∀ i j, i < 68 → j < 68 → ad i = ad j → i = j) {σ : Dz} {x0 : Int32} {x1 : Int32} {post : Int32 → Prop} (hp : P_X3_differences x0 x1 post) : Mz l D ad ty yX3_differences cX3_differences 4 (some .int) r_X3_differences nI0 σ [.int x0, .int x1] (fun r τ => σ = τ ∧ post r) (fun _ _ => False) := by
  refine mz_of (by decide) hl hj (Nat.le_of_ble_eq_true rfl) ?_
  intro p e s m args below meth c K hex hr
  unfold P_X3_differences at hp
  show Gz p l e r_X3_differences s m args below meth c D ad ty 4 0 0 (Ez below D ad ty nI0 (fun r τ => σ = τ ∧ post r) (fun _ _ => False) args s 0 0) σ 0 [(0, .int x0), (1, .int x1)] []
  refine gz_iconst K (v := (0 : Int32)) dX3_differences_0 (by decide) ?_
  refine gz_istore_n K [(2, .int (0 : Int32)), (0, .int x0), (1, .int x1)] dX3_differences_1 (by decide) rfl ?_
  refine gz_iconst K (v := (0 : Int32)) dX3_differences_2 (by decide) ?_
  refine gz_istore_n K [(3, .int (0 : Int32)), (2, .int (0 : Int32)), (0, .int x0), (1, .int x1)] dX3_differences_3 (by decide) rfl ?_
  refine gz_sub [2, 3, 1, 0] rfl ?_
  have ll_4 : ∀ (n_4 : Nat) (y0 : Int32) (y1 : Int32) (y2 : Int32) (y3 : Int32) , L_X3_differences_4 post  n_4 y0 y1 y2 y3 → Gz p l e r_X3_differences s m args below meth c D ad ty 4 0 0 (Ez below D ad ty nI0 (fun r τ => σ = τ ∧ post r) (fun _ _ => False) args s 0 0) σ 4 [(0, .int y0), (1, .int y1), (2, .int y2), (3, .int y3)] [] := by
    intro n_4; induction n_4 with
    | zero => intro y0 y1 y2 y3 hp; exact False.elim hp
    | succ n_4 ih_4 =>
      intro y0 y1 y2 y3 hp
      have hp : B_X3_differences_4 post  (L_X3_differences_4 post  n_4) y0 y1 y2 y3 := hp
      unfold B_X3_differences_4 at hp
      have bb_26 : ∀ (y0 : Int32) (y1 : Int32) (y2 : Int32) (y3 : Int32) , B_X3_differences_26 post (L_X3_differences_4 post  n_4) y0 y1 y2 y3 → Gz p l e r_X3_differences s m args below meth c D ad ty 4 0 0 (Ez below D ad ty nI0 (fun r τ => σ = τ ∧ post r) (fun _ _ => False) args s 0 0) σ 26 [(0, .int y0), (1, .int y1), (2, .int y2), (3, .int y3)] [] := by
        intro y0 y1 y2 y3 hp
        unfold B_X3_differences_26 at hp
        refine gz_iinc K (v := (y3 + 1)) [(3, .int (y3 + 1)), (0, .int y0), (1, .int y1), (2, .int y2)] dX3_differences_26 3 rfl (by first | rfl | decide) (by decide) rfl ?_
        refine gz_goto K 4 dX3_differences_29 (by decide) ?_
        refine gz_sub [1, 2, 3, 0] rfl ?_
        exact ih_4 y0 y1 y2 (y3 + 1)  hp
      refine gz_iload_n K dX3_differences_4 3 rfl ?_
      refine gz_bipush K (v := (7 : Int32)) dX3_differences_5 (by decide) ?_
      refine gz_icmp_ge K 32 dX3_differences_7 (by decide) (fun h => ?_) (fun h => ?_)
      · have hp := hp.1 h
        refine gz_iload_n K dX3_differences_32 2 rfl ?_
        exact gz_iret K hr ⟨rfl, hp⟩ dX3_differences_33 (Nat.le_of_ble_eq_true rfl) (Nat.le_of_ble_eq_true rfl)
      · have hp := hp.2 h
        refine gz_iload_n K dX3_differences_10 0 rfl ?_
        refine gz_iload_n K dX3_differences_11 3 rfl ?_
        refine gz_callS K hex (c_X3_imageOf K.2.2.2.2.2 K.2.2.1 hp) cf_X3_imageOf zq2_50 dX3_differences_12 rfl rfl (Nat.le_of_ble_eq_true rfl) ⟨Nat.le_of_ble_eq_true rfl, Nat.le_of_ble_eq_true rfl⟩ ⟨Nat.le_of_ble_eq_true rfl, Nat.le_of_ble_eq_true rfl⟩ (Nat.le_of_ble_eq_true rfl) (Nat.le_of_ble_eq_true rfl) (fun _ _ h => h.elim) (fun r12 τ hp => ?_)
        obtain ⟨rfl, hp⟩ := hp
        refine gz_norm (st' := [.int r12]) (cells' := 0) (slots' := 0) rfl rfl rfl ?_
        refine gz_iload_n K dX3_differences_15 1 rfl ?_
        refine gz_iload_n K dX3_differences_16 3 rfl ?_
        refine gz_callS K hex (c_X3_imageOf K.2.2.2.2.2 K.2.2.1 hp) cf_X3_imageOf zq2_50 dX3_differences_17 rfl rfl (Nat.le_of_ble_eq_true rfl) ⟨Nat.le_of_ble_eq_true rfl, Nat.le_of_ble_eq_true rfl⟩ ⟨Nat.le_of_ble_eq_true rfl, Nat.le_of_ble_eq_true rfl⟩ (Nat.le_of_ble_eq_true rfl) (Nat.le_of_ble_eq_true rfl) (fun _ _ h => h.elim) (fun r17 τ hp => ?_)
        obtain ⟨rfl, hp⟩ := hp
        refine gz_norm (st' := [.int r17, .int r12]) (cells' := 0) (slots' := 0) rfl rfl rfl ?_
        refine gz_icmp_eq K 26 dX3_differences_20 (by decide) (fun h => ?_) (fun h => ?_)
        · have hp := hp.1 h
          exact bb_26 y0 y1 y2 y3  hp
        · have hp := hp.2 h
          refine gz_iinc K (v := (y2 + 1)) [(2, .int (y2 + 1)), (0, .int y0), (1, .int y1), (3, .int y3)] dX3_differences_23 2 rfl (by first | rfl | decide) (by decide) rfl ?_
          refine gz_sub [1, 2, 0, 3] rfl ?_
          exact bb_26 y0 y1 (y2 + 1) y3  hp
  obtain ⟨n, hp⟩ := hp
  exact ll_4 n x0 x1 (0 : Int32) (0 : Int32)  hp
set_option maxRecDepth 100000 in
set_option maxHeartbeats 4000000 in
theorem c_X3_cycleOf {l : Launch} {D : va_G} {ad : Nat → Nat} {ty : Nat → ClassId} (hl : l.stackTraces = false) (hj : ∀ i j, i < 68 → j < 68 → ad i = ad j → i = j) {σ : Dz} {x0 : Int32} {x1 : Int32} {post : Int32 → Prop} (hp : P_X3_cycleOf x0 x1 post) : Mz l D ad ty yX3_cycleOf cX3_cycleOf 4 (some .int) r_X3_cycleOf nI0 σ [.int x0, .int x1] (fun r τ => σ = τ ∧ post r) (fun _ _ => False) := by
  refine mz_of (by decide) hl hj (Nat.le_of_ble_eq_true rfl) ?_
  intro p e s m args below meth c K hex hr
  unfold P_X3_cycleOf at hp
  show Gz p l e r_X3_cycleOf s m args below meth c D ad ty 4 0 0 (Ez below D ad ty nI0 (fun r τ => σ = τ ∧ post r) (fun _ _ => False) args s 0 0) σ 0 [(0, .int x0), (1, .int x1)] []
  refine gz_iconst K (v := (1 : Int32)) dX3_cycleOf_0 (by decide) ?_
  refine gz_istore_n K [(2, .int (1 : Int32)), (0, .int x0), (1, .int x1)] dX3_cycleOf_1 (by decide) rfl ?_
  refine gz_iload_n K dX3_cycleOf_2 1 rfl ?_
  refine gz_iload_n K dX3_cycleOf_3 2 rfl ?_
  refine gz_callS K hex (c_X3_imageOf K.2.2.2.2.2 K.2.2.1 hp) cf_X3_imageOf zq2_50 dX3_cycleOf_4 rfl rfl (Nat.le_of_ble_eq_true rfl) ⟨Nat.le_of_ble_eq_true rfl, Nat.le_of_ble_eq_true rfl⟩ ⟨Nat.le_of_ble_eq_true rfl, Nat.le_of_ble_eq_true rfl⟩ (Nat.le_of_ble_eq_true rfl) (Nat.le_of_ble_eq_true rfl) (fun _ _ h => h.elim) (fun r4 τ hp => ?_)
  obtain ⟨rfl, hp⟩ := hp
  refine gz_norm (st' := [.int r4]) (cells' := 0) (slots' := 0) rfl rfl rfl ?_
  refine gz_istore_n K [(3, .int r4), (2, .int (1 : Int32)), (0, .int x0), (1, .int x1)] dX3_cycleOf_7 (by decide) rfl ?_
  refine gz_sub [2, 3, 1, 0] rfl ?_
  have ll_8 : ∀ (n_8 : Nat) (y0 : Int32) (y1 : Int32) (y2 : Int32) (y3 : Int32) , L_X3_cycleOf_8 post  n_8 y0 y1 y2 y3 → Gz p l e r_X3_cycleOf s m args below meth c D ad ty 4 0 0 (Ez below D ad ty nI0 (fun r τ => σ = τ ∧ post r) (fun _ _ => False) args s 0 0) σ 8 [(0, .int y0), (1, .int y1), (2, .int y2), (3, .int y3)] [] := by
    intro n_8; induction n_8 with
    | zero => intro y0 y1 y2 y3 hp; exact False.elim hp
    | succ n_8 ih_8 =>
      intro y0 y1 y2 y3 hp
      have hp : B_X3_cycleOf_8 post  (L_X3_cycleOf_8 post  n_8) y0 y1 y2 y3 := hp
      unfold B_X3_cycleOf_8 at hp
      refine gz_iload_n K dX3_cycleOf_8 3 rfl ?_
      refine gz_iload_n K dX3_cycleOf_9 1 rfl ?_
      refine gz_icmp_eq K 31 dX3_cycleOf_10 (by decide) (fun h => ?_) (fun h => ?_)
      · have hp := hp.1 h
        refine gz_iload_n K dX3_cycleOf_31 2 rfl ?_
        exact gz_iret K hr ⟨rfl, hp⟩ dX3_cycleOf_32 (Nat.le_of_ble_eq_true rfl) (Nat.le_of_ble_eq_true rfl)
      · have hp := hp.2 h
        refine gz_iload_n K dX3_cycleOf_13 2 rfl ?_
        refine gz_bipush K (v := (7 : Int32)) dX3_cycleOf_14 (by decide) ?_
        refine gz_icmp_ge K 31 dX3_cycleOf_16 (by decide) (fun h => ?_) (fun h => ?_)
        · have hp := hp.1 h
          refine gz_iload_n K dX3_cycleOf_31 2 rfl ?_
          exact gz_iret K hr ⟨rfl, hp⟩ dX3_cycleOf_32 (Nat.le_of_ble_eq_true rfl) (Nat.le_of_ble_eq_true rfl)
        · have hp := hp.2 h
          refine gz_iload_n K dX3_cycleOf_19 0 rfl ?_
          refine gz_iload_n K dX3_cycleOf_20 3 rfl ?_
          refine gz_callS K hex (c_X3_imageOf K.2.2.2.2.2 K.2.2.1 hp) cf_X3_imageOf zq2_50 dX3_cycleOf_21 rfl rfl (Nat.le_of_ble_eq_true rfl) ⟨Nat.le_of_ble_eq_true rfl, Nat.le_of_ble_eq_true rfl⟩ ⟨Nat.le_of_ble_eq_true rfl, Nat.le_of_ble_eq_true rfl⟩ (Nat.le_of_ble_eq_true rfl) (Nat.le_of_ble_eq_true rfl) (fun _ _ h => h.elim) (fun r21 τ hp => ?_)
          obtain ⟨rfl, hp⟩ := hp
          refine gz_norm (st' := [.int r21]) (cells' := 0) (slots' := 0) rfl rfl rfl ?_
          refine gz_istore_n K [(3, .int r21), (0, .int y0), (1, .int y1), (2, .int y2)] dX3_cycleOf_24 (by decide) rfl ?_
          refine gz_iinc K (v := (y2 + 1)) [(2, .int (y2 + 1)), (3, .int r21), (0, .int y0), (1, .int y1)] dX3_cycleOf_25 3 rfl (by first | rfl | decide) (by decide) rfl ?_
          refine gz_goto K 8 dX3_cycleOf_28 (by decide) ?_
          refine gz_sub [2, 3, 0, 1] rfl ?_
          exact ih_8 y0 y1 (y2 + 1) r21  hp
  obtain ⟨n, hp⟩ := hp
  exact ll_8 n x0 x1 (1 : Int32) r4  hp
set_option maxRecDepth 100000 in
set_option maxHeartbeats 4000000 in
theorem c_X3_orderOf {l : Launch} {D : va_G} {ad : Nat → Nat} {ty : Nat → ClassId} (hl : l.stackTraces = false) (hj : ∀ i j, i < 68 → j < 68 → ad i = ad j → i = j) {σ : Dz} {x0 : Int32} {post : Int32 → Prop} (hp : P_X3_orderOf x0 post) : Mz l D ad ty yX3_orderOf cX3_orderOf 3 (some .int) r_X3_orderOf nI0 σ [.int x0] (fun r τ => σ = τ ∧ post r) (fun _ _ => False) := by
  refine mz_of (by decide) hl hj (Nat.le_of_ble_eq_true rfl) ?_
  intro p e s m args below meth c K hex hr
  unfold P_X3_orderOf at hp
  show Gz p l e r_X3_orderOf s m args below meth c D ad ty 3 0 0 (Ez below D ad ty nI0 (fun r τ => σ = τ ∧ post r) (fun _ _ => False) args s 0 0) σ 0 [(0, .int x0)] []
  refine gz_iconst K (v := (1 : Int32)) dX3_orderOf_0 (by decide) ?_
  refine gz_istore_n K [(1, .int (1 : Int32)), (0, .int x0)] dX3_orderOf_1 (by decide) rfl ?_
  refine gz_iload_n K dX3_orderOf_2 1 rfl ?_
  refine gz_istore_n K [(2, .int x0), (1, .int (1 : Int32)), (0, .int x0)] dX3_orderOf_3 (by decide) rfl ?_
  refine gz_sub [2, 1, 0] rfl ?_
  have ll_4 : ∀ (n_4 : Nat) (y0 : Int32) (y1 : Int32) (y2 : Int32) , L_X3_orderOf_4 post  n_4 y0 y1 y2 → Gz p l e r_X3_orderOf s m args below meth c D ad ty 3 0 0 (Ez below D ad ty nI0 (fun r τ => σ = τ ∧ post r) (fun _ _ => False) args s 0 0) σ 4 [(0, .int y0), (1, .int y1), (2, .int y2)] [] := by
    intro n_4; induction n_4 with
    | zero => intro y0 y1 y2 hp; exact False.elim hp
    | succ n_4 ih_4 =>
      intro y0 y1 y2 hp
      have hp : B_X3_orderOf_4 post  (L_X3_orderOf_4 post  n_4) y0 y1 y2 := hp
      unfold B_X3_orderOf_4 at hp
      refine gz_iload_n K dX3_orderOf_4 2 rfl ?_
      refine gz_ldc K zq4_61 dX3_orderOf_5 ?_
      refine gz_icmp_eq K 28 dX3_orderOf_7 (by decide) (fun h => ?_) (fun h => ?_)
      · have hp := hp.1 h
        refine gz_iload_n K dX3_orderOf_28 1 rfl ?_
        exact gz_iret K hr ⟨rfl, hp⟩ dX3_orderOf_29 (Nat.le_of_ble_eq_true rfl) (Nat.le_of_ble_eq_true rfl)
      · have hp := hp.2 h
        refine gz_iload_n K dX3_orderOf_10 1 rfl ?_
        refine gz_bipush K (v := (12 : Int32)) dX3_orderOf_11 (by decide) ?_
        refine gz_icmp_ge K 28 dX3_orderOf_13 (by decide) (fun h => ?_) (fun h => ?_)
        · have hp := hp.1 h
          refine gz_iload_n K dX3_orderOf_28 1 rfl ?_
          exact gz_iret K hr ⟨rfl, hp⟩ dX3_orderOf_29 (Nat.le_of_ble_eq_true rfl) (Nat.le_of_ble_eq_true rfl)
        · have hp := hp.2 h
          refine gz_iload_n K dX3_orderOf_16 2 rfl ?_
          refine gz_iload_n K dX3_orderOf_17 0 rfl ?_
          refine gz_callS K hex (c_X3_then K.2.2.2.2.2 K.2.2.1 hp) cf_X3_then zq4_62 dX3_orderOf_18 rfl rfl (Nat.le_of_ble_eq_true rfl) ⟨Nat.le_of_ble_eq_true rfl, Nat.le_of_ble_eq_true rfl⟩ ⟨Nat.le_of_ble_eq_true rfl, Nat.le_of_ble_eq_true rfl⟩ (Nat.le_of_ble_eq_true rfl) (Nat.le_of_ble_eq_true rfl) (fun _ _ h => h.elim) (fun r18 τ hp => ?_)
          obtain ⟨rfl, hp⟩ := hp
          refine gz_norm (st' := [.int r18]) (cells' := 0) (slots' := 0) rfl rfl rfl ?_
          refine gz_istore_n K [(2, .int r18), (0, .int y0), (1, .int y1)] dX3_orderOf_21 (by decide) rfl ?_
          refine gz_iinc K (v := (y1 + 1)) [(1, .int (y1 + 1)), (2, .int r18), (0, .int y0)] dX3_orderOf_22 2 rfl (by first | rfl | decide) (by decide) rfl ?_
          refine gz_goto K 4 dX3_orderOf_25 (by decide) ?_
          refine gz_sub [2, 0, 1] rfl ?_
          exact ih_4 y0 (y1 + 1) r18  hp
  obtain ⟨n, hp⟩ := hp
  exact ll_4 n x0 (1 : Int32) x0  hp
set_option maxRecDepth 100000 in
set_option maxHeartbeats 4000000 in
theorem c_X3_hasOddParity {l : Launch} {D : va_G} {ad : Nat → Nat} {ty : Nat → ClassId} (hl : l.stackTraces = false) (hj : ∀ i j, i < 68 → j < 68 → ad i = ad j → i = j) {σ : Dz} {x0 : Int32} {post : Int32 → Prop} (hp : P_X3_hasOddParity x0 post) : Mz l D ad ty yX3_hasOddParity cX3_hasOddParity 5 (some .boolean) r_X3_hasOddParity nI0 σ [.int x0] (fun r τ => σ = τ ∧ post r) (fun _ _ => False) := by
  refine mz_of (by decide) hl hj (Nat.le_of_ble_eq_true rfl) ?_
  intro p e s m args below meth c K hex hr
  unfold P_X3_hasOddParity at hp
  show Gz p l e r_X3_hasOddParity s m args below meth c D ad ty 5 0 0 (Ez below D ad ty nI0 (fun r τ => σ = τ ∧ post r) (fun _ _ => False) args s 0 0) σ 0 [(0, .int x0)] []
  refine gz_iconst K (v := (0 : Int32)) dX3_hasOddParity_0 (by decide) ?_
  refine gz_istore_n K [(1, .int (0 : Int32)), (0, .int x0)] dX3_hasOddParity_1 (by decide) rfl ?_
  refine gz_iconst K (v := (0 : Int32)) dX3_hasOddParity_2 (by decide) ?_
  refine gz_istore_n K [(2, .int (0 : Int32)), (1, .int (0 : Int32)), (0, .int x0)] dX3_hasOddParity_3 (by decide) rfl ?_
  refine gz_iconst K (v := (0 : Int32)) dX3_hasOddParity_4 (by decide) ?_
  refine gz_istore_n K [(3, .int (0 : Int32)), (2, .int (0 : Int32)), (1, .int (0 : Int32)), (0, .int x0)] dX3_hasOddParity_5 (by decide) rfl ?_
  refine gz_sub [3, 2, 1, 0] rfl ?_
  have ll_6 : ∀ (n_6 : Nat) (y0 : Int32) (y1 : Int32) (y2 : Int32) (y3 : Int32) , L_X3_hasOddParity_6 post  n_6 y0 y1 y2 y3 → Gz p l e r_X3_hasOddParity s m args below meth c D ad ty 5 0 0 (Ez below D ad ty nI0 (fun r τ => σ = τ ∧ post r) (fun _ _ => False) args s 0 0) σ 6 [(0, .int y0), (1, .int y1), (2, .int y2), (3, .int y3)] [] := by
    intro n_6; induction n_6 with
    | zero => intro y0 y1 y2 y3 hp; exact False.elim hp
    | succ n_6 ih_6 =>
      intro y0 y1 y2 y3 hp
      have hp : B_X3_hasOddParity_6 post  (L_X3_hasOddParity_6 post  n_6) y0 y1 y2 y3 := hp
      unfold B_X3_hasOddParity_6 at hp
      refine gz_iload_n K dX3_hasOddParity_6 3 rfl ?_
      refine gz_bipush K (v := (7 : Int32)) dX3_hasOddParity_7 (by decide) ?_
      refine gz_icmp_ge K 42 dX3_hasOddParity_9 (by decide) (fun h => ?_) (fun h => ?_)
      · have hp := hp.1 h
        refine gz_iload_n K dX3_hasOddParity_42 2 rfl ?_
        refine gz_iconst K (v := (1 : Int32)) dX3_hasOddParity_43 (by decide) ?_
        refine gz_iand K dX3_hasOddParity_44 ?_
        refine gz_iconst K (v := (1 : Int32)) dX3_hasOddParity_45 (by decide) ?_
        refine gz_icmp_ne K 53 dX3_hasOddParity_46 (by decide) (fun h => ?_) (fun h => ?_)
        · have hp := hp.1 h
          refine gz_iconst K (v := (0 : Int32)) dX3_hasOddParity_53 (by decide) ?_
          exact gz_zret K hr (by decide) ⟨rfl, hp⟩ dX3_hasOddParity_54 (Nat.le_of_ble_eq_true rfl) (Nat.le_of_ble_eq_true rfl)
        · have hp := hp.2 h
          refine gz_iconst K (v := (1 : Int32)) dX3_hasOddParity_49 (by decide) ?_
          refine gz_goto K 54 dX3_hasOddParity_50 (by decide) ?_
          exact gz_zret K hr (by decide) ⟨rfl, hp⟩ dX3_hasOddParity_54 (Nat.le_of_ble_eq_true rfl) (Nat.le_of_ble_eq_true rfl)
      · have hp := hp.2 h
        refine gz_iload_n K dX3_hasOddParity_12 0 rfl ?_
        refine gz_iload_n K dX3_hasOddParity_13 3 rfl ?_
        refine gz_callS K hex (c_X3_imageOf K.2.2.2.2.2 K.2.2.1 hp) cf_X3_imageOf zq2_50 dX3_hasOddParity_14 rfl rfl (Nat.le_of_ble_eq_true rfl) ⟨Nat.le_of_ble_eq_true rfl, Nat.le_of_ble_eq_true rfl⟩ ⟨Nat.le_of_ble_eq_true rfl, Nat.le_of_ble_eq_true rfl⟩ (Nat.le_of_ble_eq_true rfl) (Nat.le_of_ble_eq_true rfl) (fun _ _ h => h.elim) (fun r14 τ hp => ?_)
        obtain ⟨rfl, hp⟩ := hp
        refine gz_norm (st' := [.int r14]) (cells' := 0) (slots' := 0) rfl rfl rfl ?_
        refine gz_istore K [(4, .int r14), (0, .int y0), (1, .int y1), (2, .int y2), (3, .int y3)] dX3_hasOddParity_17 (by decide) rfl ?_
        refine gz_iload_n K dX3_hasOddParity_19 3 rfl ?_
        refine gz_iload_n K dX3_hasOddParity_20 2 rfl ?_
        refine gz_iload K dX3_hasOddParity_21 0 rfl ?_
        refine gz_iushr K dX3_hasOddParity_23 ?_
        refine gz_callS K hex (c_J6_bitCount_0f7a4 K.2.2.2.2.2 K.2.2.1 hp) cf_J6_bitCount_0f7a4 zq2_53 dX3_hasOddParity_24 rfl rfl (Nat.le_of_ble_eq_true rfl) ⟨Nat.le_of_ble_eq_true rfl, Nat.le_of_ble_eq_true rfl⟩ ⟨Nat.le_of_ble_eq_true rfl, Nat.le_of_ble_eq_true rfl⟩ (Nat.le_of_ble_eq_true rfl) (Nat.le_of_ble_eq_true rfl) (fun _ _ h => h.elim) (fun r24 τ hp => ?_)
        obtain ⟨rfl, hp⟩ := hp
        refine gz_norm (st' := [.int r24, .int y2]) (cells' := 0) (slots' := 0) rfl rfl rfl ?_
        refine gz_iadd K dX3_hasOddParity_27 ?_
        refine gz_istore_n K [(2, .int (y2 + r24)), (4, .int r14), (0, .int y0), (1, .int y1), (3, .int y3)] dX3_hasOddParity_28 (by decide) rfl ?_
        refine gz_iload_n K dX3_hasOddParity_29 3 rfl ?_
        refine gz_iconst K (v := (1 : Int32)) dX3_hasOddParity_30 (by decide) ?_
        refine gz_iload K dX3_hasOddParity_31 1 rfl ?_
        refine gz_ishl K dX3_hasOddParity_33 ?_
        refine gz_ior K dX3_hasOddParity_34 ?_
        refine gz_istore_n K [(1, .int (y1 ||| ((1 : Int32) <<< (r14 &&& 31)))), (2, .int (y2 + r24)), (4, .int r14), (0, .int y0), (3, .int y3)] dX3_hasOddParity_35 (by decide) rfl ?_
        refine gz_iinc K (v := (y3 + 1)) [(3, .int (y3 + 1)), (1, .int (y1 ||| ((1 : Int32) <<< (r14 &&& 31)))), (2, .int (y2 + r24)), (4, .int r14), (0, .int y0)] dX3_hasOddParity_36 4 rfl (by first | rfl | decide) (by decide) rfl ?_
        refine gz_goto K 6 dX3_hasOddParity_39 (by decide) ?_
        refine gz_sub [4, 1, 2, 0] rfl ?_
        exact ih_6 y0 (y1 ||| ((1 : Int32) <<< (r14 &&& 31))) (y2 + r24) (y3 + 1)  hp
  obtain ⟨n, hp⟩ := hp
  exact ll_6 n x0 (0 : Int32) (0 : Int32) (0 : Int32)  hp
set_option maxRecDepth 100000 in
set_option maxHeartbeats 4000000 in
theorem c_X4_clear {l : Launch} {D : va_G} {ad : Nat → Nat} {ty : Nat → ClassId} (hl : l.stackTraces = false) (hj : ∀ i j, i < 68 → j < 68 → ad i = ad j → i = j) {σ : Dz} {k : Nat} (hk : isS k) {post : Dz → Prop} (hp : P_X4_clear σ k post) : Mz l D ad ty yX4_clear cX4_clear 2 none r_X4_clear nV0 σ [.ref (ad k)] (fun _ τ => post τ) (fun _ _ => False) := by
  refine mz_of (by decide) hl hj (Nat.le_of_ble_eq_true rfl) ?_
  intro p e s m args below meth c K hex hr
  unfold P_X4_clear at hp
  show Gz p l e r_X4_clear s m args below meth c D ad ty 2 0 0 (Ez below D ad ty nV0 (fun _ τ => post τ) (fun _ _ => False) args s 0 0) σ 0 [(0, .ref (ad k))] []
  refine gz_iconst K (v := (0 : Int32)) dX4_clear_0 (by decide) ?_
  refine gz_istore_n K [(1, .int (0 : Int32)), (0, .ref (ad k))] dX4_clear_1 (by decide) rfl ?_
  refine gz_sub [1, 0] rfl ?_
  have ll_2 : ∀ (n_2 : Nat) (σ : Dz) (y1 : Int32) , L_X4_clear_2 k post  n_2 σ y1 → Gz p l e r_X4_clear s m args below meth c D ad ty 2 0 0 (Ez below D ad ty nV0 (fun _ τ => post τ) (fun _ _ => False) args s 0 0) σ 2 [(0, .ref (ad k)), (1, .int y1)] [] := by
    intro n_2; induction n_2 with
    | zero => intro σ y1 hp; exact False.elim hp
    | succ n_2 ih_2 =>
      intro σ y1 hp
      have hp : B_X4_clear_2 k post  (L_X4_clear_2 k post  n_2) σ y1 := hp
      unfold B_X4_clear_2 at hp
      refine gz_iload_n K dX4_clear_2 1 rfl ?_
      refine gz_bipush K (v := (10 : Int32)) dX4_clear_3 (by decide) ?_
      refine gz_icmp_ge K 22 dX4_clear_5 (by decide) (fun h => ?_) (fun h => ?_)
      · have hp := hp.1 h
        refine gz_aload_n K dX4_clear_22 0 rfl ?_
        refine gz_iconst K (v := (0 : Int32)) dX4_clear_23 (by decide) ?_
        refine gz_put K (x := (0 : Int32)) (ceS hk).1 ((ceS hk).2 _ _ _ _ _ _) rfl inz_X4 tyX4 tyX4_ok nmX4 2 (by decide) zq1_189 rfl (tyX4_ok _ (by decide)) rfl rfl (Nat.le_of_ble_eq_true rfl) (peX4_2 hk) dX4_clear_24 ?_
        refine gz_aload_n K dX4_clear_27 0 rfl ?_
        refine gz_ldc K zq1_166 dX4_clear_28 ?_
        refine gz_put K (x := (1754760 : Int32)) (ceS hk).1 ((ceS hk).2 _ _ _ _ _ _) rfl inz_X4 tyX4 tyX4_ok nmX4 3 (by decide) zq1_190 rfl (tyX4_ok _ (by decide)) rfl rfl (Nat.le_of_ble_eq_true rfl) (peX4_3 hk) dX4_clear_30 ?_
        refine gz_iconst K (v := (0 : Int32)) dX4_clear_33 (by decide) ?_
        refine gz_istore_n K [(1, .int (0 : Int32)), (0, .ref (ad k))] dX4_clear_34 (by decide) rfl ?_
        refine gz_sub [1, 0] rfl ?_
        have ll_35 : ∀ (n_35 : Nat) (σ : Dz) (y1 : Int32) , L_X4_clear_35 k post  n_35 σ y1 → Gz p l e r_X4_clear s m args below meth c D ad ty 2 0 0 (Ez below D ad ty nV0 (fun _ τ => post τ) (fun _ _ => False) args s 0 0) σ 35 [(0, .ref (ad k)), (1, .int y1)] [] := by
          intro n_35; induction n_35 with
          | zero => intro σ y1 hp; exact False.elim hp
          | succ n_35 ih_35 =>
            intro σ y1 hp
            have hp : B_X4_clear_35 k post  (L_X4_clear_35 k post  n_35) σ y1 := hp
            unfold B_X4_clear_35 at hp
            refine gz_iload_n K dX4_clear_35 1 rfl ?_
            refine gz_iconst K (v := (4 : Int32)) dX4_clear_36 (by decide) ?_
            refine gz_icmp_ge K 55 dX4_clear_37 (by decide) (fun h => ?_) (fun h => ?_)
            · have hp := hp.1 h
              exact gz_vret K hr hp dX4_clear_55 (Nat.le_of_ble_eq_true rfl) (Nat.le_of_ble_eq_true rfl)
            · have hp := hp.2 h
              refine gz_aload_n K dX4_clear_40 0 rfl ?_
              refine gz_get K (v := .ref (ad (k + 2))) (ceS hk).1 ((ceS hk).2 _ _ _ _ _ _) rfl inz_X4 1 (by decide) zq1_188 rfl dX4_clear_41 ?_
              refine gz_iload_n K dX4_clear_44 1 rfl ?_
              obtain ⟨h45, hp⟩ := hp
              refine gz_aald K (cwS2 hk).1 ((cwS2 hk).2 _ _ _ _ _ _) h45 dX4_clear_45 ?_
              refine gz_callV K hex (c_X6_clear K.2.2.2.2.2 K.2.2.1 (isW_S hk (vp_lt h45)) hp) cf_X6_clear zq1_183 (ceW (isW_S hk (vp_lt h45))).1 ((ceW (isW_S hk (vp_lt h45))).2 _ _ _ _ _ _) rfl dX4_clear_46 rfl rfl (Nat.le_of_ble_eq_true rfl) ⟨Nat.le_of_ble_eq_true rfl, Nat.le_of_ble_eq_true rfl⟩ ⟨Nat.le_of_ble_eq_true rfl, Nat.le_of_ble_eq_true rfl⟩ (Nat.le_of_ble_eq_true rfl) (Nat.le_of_ble_eq_true rfl) (fun _ _ h => h.elim) (fun _ τ46 hp => ?_)
              refine gz_norm (st' := []) (cells' := 0) (slots' := 0) rfl rfl rfl ?_
              refine gz_iinc K (v := (y1 + 1)) [(1, .int (y1 + 1)), (0, .ref (ad k))] dX4_clear_49 1 rfl (by first | rfl | decide) (by decide) rfl ?_
              refine gz_goto K 35 dX4_clear_52 (by decide) ?_
              refine gz_sub [1, 0] rfl ?_
              exact ih_35 τ46 (y1 + 1)  hp
        obtain ⟨n, hp⟩ := hp
        exact ll_35 n (sz_i (sz_i σ k 2 (0 : Int32)) k 3 (1754760 : Int32)) (0 : Int32)  hp
      · have hp := hp.2 h
        refine gz_aload_n K dX4_clear_8 0 rfl ?_
        refine gz_get K (v := .ref (ad (k + 1))) (ceS hk).1 ((ceS hk).2 _ _ _ _ _ _) rfl inz_X4 0 (by decide) zq1_187 rfl dX4_clear_9 ?_
        refine gz_iload_n K dX4_clear_12 1 rfl ?_
        refine gz_ldc K zq1_166 dX4_clear_13 ?_
        obtain ⟨h, hp⟩ := hp
        refine gz_iast K (x := (1754760 : Int32)) (caS hk).1 ((caS hk).2 ad ty) h dX4_clear_15 ?_
        refine gz_iinc K (v := (y1 + 1)) [(1, .int (y1 + 1)), (0, .ref (ad k))] dX4_clear_16 1 rfl (by first | rfl | decide) (by decide) rfl ?_
        refine gz_goto K 2 dX4_clear_19 (by decide) ?_
        refine gz_sub [1, 0] rfl ?_
        exact ih_2 (sz_i σ (k + 1) (y1).toNatClampNeg (1754760 : Int32)) (y1 + 1)  hp
  obtain ⟨n, hp⟩ := hp
  exact ll_2 n σ (0 : Int32)  hp
set_option maxRecDepth 100000 in
set_option maxHeartbeats 4000000 in
theorem c_X6_addPart {l : Launch} {D : va_G} {ad : Nat → Nat} {ty : Nat → ClassId} (hl : l.stackTraces = false) (hj : ∀ i j, i < 68 → j < 68 → ad i = ad j → i = j) {σ : Dz} {w : Nat} {w1 : Nat} (hw : isW w) (h1 : isW w1) {x2 : Int32} {x3 : Int32} {post : Int32 → Dz → Prop} (hp : P_X6_addPart σ w w1 x2 x3 post) : Mz l D ad ty yX6_addPart cX6_addPart 6 (some .boolean) r_X6_addPart nI0 σ [.ref (ad w), .ref (ad w1), .int x2, .int x3] post (fun _ _ => False) := by
  refine mz_of (by decide) hl hj (Nat.le_of_ble_eq_true rfl) ?_
  intro p e s m args below meth c K hex hr
  unfold P_X6_addPart at hp
  show Gz p l e r_X6_addPart s m args below meth c D ad ty 6 0 0 (Ez below D ad ty nI0 post (fun _ _ => False) args s 0 0) σ 0 [(0, .ref (ad w)), (1, .ref (ad w1)), (2, .int x2), (3, .int x3)] []
  refine gz_iconst K (v := (1 : Int32)) dX6_addPart_0 (by decide) ?_
  refine gz_istore K [(4, .int (1 : Int32)), (0, .ref (ad w)), (1, .ref (ad w1)), (2, .int x2), (3, .int x3)] dX6_addPart_1 (by decide) rfl ?_
  refine gz_iload_n K dX6_addPart_3 3 rfl ?_
  refine gz_istore K [(5, .int x2), (4, .int (1 : Int32)), (0, .ref (ad w)), (1, .ref (ad w1)), (2, .int x2), (3, .int x3)] dX6_addPart_4 (by decide) rfl ?_
  refine gz_sub [2, 3, 5, 1, 0] rfl ?_
  have ll_6 : ∀ (n_6 : Nat) (σ : Dz) (y3 : Int32) (y4 : Int32) (y5 : Int32) , L_X6_addPart_6 w w1 post  n_6 σ y3 y4 y5 → Gz p l e r_X6_addPart s m args below meth c D ad ty 6 0 0 (Ez below D ad ty nI0 post (fun _ _ => False) args s 0 0) σ 6 [(0, .ref (ad w)), (1, .ref (ad w1)), (3, .int y3), (4, .int y4), (5, .int y5)] [] := by
    intro n_6; induction n_6 with
    | zero => intro σ y3 y4 y5 hp; exact False.elim hp
    | succ n_6 ih_6 =>
      intro σ y3 y4 y5 hp
      have hp : B_X6_addPart_6 w w1 post  (L_X6_addPart_6 w w1 post  n_6) σ y3 y4 y5 := hp
      unfold B_X6_addPart_6 at hp
      refine gz_iload K dX6_addPart_6 3 rfl ?_
      refine gz_if_eq K 35 dX6_addPart_8 (by decide) (fun h => ?_) (fun h => ?_)
      · have hp := hp.1 h
        refine gz_iload K dX6_addPart_35 3 rfl ?_
        exact gz_zret K hr (nB hp.1) hp.2 dX6_addPart_37 (Nat.le_of_ble_eq_true rfl) (Nat.le_of_ble_eq_true rfl)
      · have hp := hp.2 h
        refine gz_iload K dX6_addPart_11 4 rfl ?_
        refine gz_iload_n K dX6_addPart_13 2 rfl ?_
        refine gz_icmp_ge K 35 dX6_addPart_14 (by decide) (fun h => ?_) (fun h => ?_)
        · have hp := hp.1 h
          refine gz_iload K dX6_addPart_35 3 rfl ?_
          exact gz_zret K hr (nB hp.1) hp.2 dX6_addPart_37 (Nat.le_of_ble_eq_true rfl) (Nat.le_of_ble_eq_true rfl)
        · have hp := hp.2 h
          refine gz_aload_n K dX6_addPart_17 0 rfl ?_
          refine gz_aload_n K dX6_addPart_18 1 rfl ?_
          refine gz_iload K dX6_addPart_19 4 rfl ?_
          refine gz_callV K hex (c_X6_at K.2.2.2.2.2 K.2.2.1 h1 hp) cf_X6_at zq2_115 (ceW h1).1 ((ceW h1).2 _ _ _ _ _ _) rfl dX6_addPart_21 rfl rfl (Nat.le_of_ble_eq_true rfl) ⟨Nat.le_of_ble_eq_true rfl, Nat.le_of_ble_eq_true rfl⟩ ⟨Nat.le_of_ble_eq_true rfl, Nat.le_of_ble_eq_true rfl⟩ (Nat.le_of_ble_eq_true rfl) (Nat.le_of_ble_eq_true rfl) (fun _ _ h => h.elim) (fun r21 τ hp => ?_)
          obtain ⟨rfl, hp⟩ := hp
          refine gz_norm (st' := [.int r21, .ref (ad w)]) (cells' := 0) (slots' := 0) rfl rfl rfl ?_
          refine gz_callV K hex (c_X6_add K.2.2.2.2.2 K.2.2.1 hw hp) cf_X6_add zq2_119 (ceW hw).1 ((ceW hw).2 _ _ _ _ _ _) rfl dX6_addPart_24 rfl rfl (Nat.le_of_ble_eq_true rfl) ⟨Nat.le_of_ble_eq_true rfl, Nat.le_of_ble_eq_true rfl⟩ ⟨Nat.le_of_ble_eq_true rfl, Nat.le_of_ble_eq_true rfl⟩ (Nat.le_of_ble_eq_true rfl) (Nat.le_of_ble_eq_true rfl) (fun _ _ h => h.elim) (fun r24 τ24 hp => ?_)
          refine gz_norm (st' := [.int r24]) (cells' := 0) (slots' := 0) rfl rfl rfl ?_
          refine gz_istore K [(4, .int r24), (0, .ref (ad w)), (1, .ref (ad w1)), (3, .int y3), (5, .int y5)] dX6_addPart_27 (by decide) rfl ?_
          refine gz_iinc K (v := (y5 + 1)) [(5, .int (y5 + 1)), (4, .int r24), (0, .ref (ad w)), (1, .ref (ad w1)), (3, .int y3)] dX6_addPart_29 4 rfl (by first | rfl | decide) (by decide) rfl ?_
          refine gz_goto K 6 dX6_addPart_32 (by decide) ?_
          refine gz_sub [2, 3, 4, 1, 0] rfl ?_
          exact ih_6 τ24 y3 r24 (y5 + 1)  hp
  obtain ⟨n, hp⟩ := hp
  exact ll_6 n σ x3 (1 : Int32) x2  hp
set_option maxRecDepth 100000 in
set_option maxHeartbeats 4000000 in
theorem c_X6_addAll {l : Launch} {D : va_G} {ad : Nat → Nat} {ty : Nat → ClassId} (hl : l.stackTraces = false) (hj : ∀ i j, i < 68 → j < 68 → ad i = ad j → i = j) {σ : Dz} {w : Nat} {w1 : Nat} (hw : isW w) (h1 : isW w1) {post : Int32 → Dz → Prop} (hp : P_X6_addAll σ w w1 post) : Mz l D ad ty yX6_addAll cX6_addAll 2 (some .boolean) r_X6_addAll nI0 σ [.ref (ad w), .ref (ad w1)] post (fun _ _ => False) := by
  refine mz_of (by decide) hl hj (Nat.le_of_ble_eq_true rfl) ?_
  intro p e s m args below meth c K hex hr
  unfold P_X6_addAll at hp
  show Gz p l e r_X6_addAll s m args below meth c D ad ty 2 0 0 (Ez below D ad ty nI0 post (fun _ _ => False) args s 0 0) σ 0 [(0, .ref (ad w)), (1, .ref (ad w1))] []
  refine gz_aload_n K dX6_addAll_0 0 rfl ?_
  refine gz_aload_n K dX6_addAll_1 1 rfl ?_
  refine gz_iconst K (v := (0 : Int32)) dX6_addAll_2 (by decide) ?_
  refine gz_aload_n K dX6_addAll_3 1 rfl ?_
  refine gz_callV K hex (c_X6_length K.2.2.2.2.2 K.2.2.1 h1 hp) cf_X6_length zq2_107 (ceW h1).1 ((ceW h1).2 _ _ _ _ _ _) rfl dX6_addAll_4 rfl rfl (Nat.le_of_ble_eq_true rfl) ⟨Nat.le_of_ble_eq_true rfl, Nat.le_of_ble_eq_true rfl⟩ ⟨Nat.le_of_ble_eq_true rfl, Nat.le_of_ble_eq_true rfl⟩ (Nat.le_of_ble_eq_true rfl) (Nat.le_of_ble_eq_true rfl) (fun _ _ h => h.elim) (fun r4 τ hp => ?_)
  obtain ⟨rfl, hp⟩ := hp
  refine gz_norm (st' := [.int r4, .int (0 : Int32), .ref (ad w1), .ref (ad w)]) (cells' := 0) (slots' := 0) rfl rfl rfl ?_
  refine gz_callV K hex (c_X6_addPart K.2.2.2.2.2 K.2.2.1 hw h1 hp) cf_X6_addPart zq2_111 (ceW hw).1 ((ceW hw).2 _ _ _ _ _ _) rfl dX6_addAll_7 rfl rfl (Nat.le_of_ble_eq_true rfl) ⟨Nat.le_of_ble_eq_true rfl, Nat.le_of_ble_eq_true rfl⟩ ⟨Nat.le_of_ble_eq_true rfl, Nat.le_of_ble_eq_true rfl⟩ (Nat.le_of_ble_eq_true rfl) (Nat.le_of_ble_eq_true rfl) (fun _ _ h => h.elim) (fun r7 τ7 hp => ?_)
  refine gz_norm (st' := [.int r7]) (cells' := 0) (slots' := 0) rfl rfl rfl ?_
  exact gz_zret K hr (nB hp.1) hp.2 dX6_addAll_10 (Nat.le_of_ble_eq_true rfl) (Nat.le_of_ble_eq_true rfl)
set_option maxRecDepth 100000 in
set_option maxHeartbeats 4000000 in
theorem c_X6_copyFrom {l : Launch} {D : va_G} {ad : Nat → Nat} {ty : Nat → ClassId} (hl : l.stackTraces = false) (hj : ∀ i j, i < 68 → j < 68 → ad i = ad j → i = j) {σ : Dz} {w : Nat} {w1 : Nat} (hw : isW w) (h1 : isW w1) {post : Dz → Prop} (hp : P_X6_copyFrom σ w w1 post) : Mz l D ad ty yX6_copyFrom cX6_copyFrom 2 none r_X6_copyFrom nV0 σ [.ref (ad w), .ref (ad w1)] (fun _ τ => post τ) (fun _ _ => False) := by
  refine mz_of (by decide) hl hj (Nat.le_of_ble_eq_true rfl) ?_
  intro p e s m args below meth c K hex hr
  unfold P_X6_copyFrom at hp
  show Gz p l e r_X6_copyFrom s m args below meth c D ad ty 2 0 0 (Ez below D ad ty nV0 (fun _ τ => post τ) (fun _ _ => False) args s 0 0) σ 0 [(0, .ref (ad w)), (1, .ref (ad w1))] []
  refine gz_aload_n K dX6_copyFrom_0 0 rfl ?_
  refine gz_iconst K (v := (0 : Int32)) dX6_copyFrom_1 (by decide) ?_
  refine gz_put K (x := (0 : Int32)) (ceW hw).1 ((ceW hw).2 _ _ _ _ _ _) rfl inz_X6 tyX6 tyX6_ok nmX6 1 (by decide) zq1_173 rfl (tyX6_ok _ (by decide)) rfl rfl (Nat.le_of_ble_eq_true rfl) (peX6_1 hw) dX6_copyFrom_2 ?_
  refine gz_aload_n K dX6_copyFrom_5 0 rfl ?_
  refine gz_aload_n K dX6_copyFrom_6 1 rfl ?_
  refine gz_callV K hex (c_X6_addAll K.2.2.2.2.2 K.2.2.1 hw h1 hp) cf_X6_addAll zq2_103 (ceW hw).1 ((ceW hw).2 _ _ _ _ _ _) rfl dX6_copyFrom_7 rfl rfl (Nat.le_of_ble_eq_true rfl) ⟨Nat.le_of_ble_eq_true rfl, Nat.le_of_ble_eq_true rfl⟩ ⟨Nat.le_of_ble_eq_true rfl, Nat.le_of_ble_eq_true rfl⟩ (Nat.le_of_ble_eq_true rfl) (Nat.le_of_ble_eq_true rfl) (fun _ _ h => h.elim) (fun r7 τ7 hp => ?_)
  refine gz_norm (st' := [.int r7]) (cells' := 0) (slots' := 0) rfl rfl rfl ?_
  refine gz_pop K dX6_copyFrom_10 rfl ?_
  exact gz_vret K hr hp dX6_copyFrom_11 (Nat.le_of_ble_eq_true rfl) (Nat.le_of_ble_eq_true rfl)
set_option maxRecDepth 100000 in
set_option maxHeartbeats 4000000 in
theorem c_X4_copyFrom {l : Launch} {D : va_G} {ad : Nat → Nat} {ty : Nat → ClassId} (hl : l.stackTraces = false) (hj : ∀ i j, i < 68 → j < 68 → ad i = ad j → i = j) {σ : Dz} {k : Nat} {k1 : Nat} (hk : isS k) (h1 : isS k1) {post : Dz → Prop} (hp : P_X4_copyFrom σ k k1 post) : Mz l D ad ty yX4_copyFrom cX4_copyFrom 3 none r_X4_copyFrom nV0 σ [.ref (ad k), .ref (ad k1)] (fun _ τ => post τ) (fun _ _ => False) := by
  refine mz_of (by decide) hl hj (Nat.le_of_ble_eq_true rfl) ?_
  intro p e s m args below meth c K hex hr
  unfold P_X4_copyFrom at hp
  show Gz p l e r_X4_copyFrom s m args below meth c D ad ty 3 0 0 (Ez below D ad ty nV0 (fun _ τ => post τ) (fun _ _ => False) args s 0 0) σ 0 [(0, .ref (ad k)), (1, .ref (ad k1))] []
  refine gz_iconst K (v := (0 : Int32)) dX4_copyFrom_0 (by decide) ?_
  refine gz_istore_n K [(2, .int (0 : Int32)), (0, .ref (ad k)), (1, .ref (ad k1))] dX4_copyFrom_1 (by decide) rfl ?_
  refine gz_sub [1, 2, 0] rfl ?_
  have ll_2 : ∀ (n_2 : Nat) (σ : Dz) (y2 : Int32) , L_X4_copyFrom_2 k k1 post  n_2 σ y2 → Gz p l e r_X4_copyFrom s m args below meth c D ad ty 3 0 0 (Ez below D ad ty nV0 (fun _ τ => post τ) (fun _ _ => False) args s 0 0) σ 2 [(0, .ref (ad k)), (1, .ref (ad k1)), (2, .int y2)] [] := by
    intro n_2; induction n_2 with
    | zero => intro σ y2 hp; exact False.elim hp
    | succ n_2 ih_2 =>
      intro σ y2 hp
      have hp : B_X4_copyFrom_2 k k1 post  (L_X4_copyFrom_2 k k1 post  n_2) σ y2 := hp
      unfold B_X4_copyFrom_2 at hp
      refine gz_iload_n K dX4_copyFrom_2 2 rfl ?_
      refine gz_bipush K (v := (10 : Int32)) dX4_copyFrom_3 (by decide) ?_
      refine gz_icmp_ge K 26 dX4_copyFrom_5 (by decide) (fun h => ?_) (fun h => ?_)
      · have hp := hp.1 h
        refine gz_aload_n K dX4_copyFrom_26 0 rfl ?_
        refine gz_aload_n K dX4_copyFrom_27 1 rfl ?_
        refine gz_get K (v := .int (gz_i σ k1 2)) (ceS h1).1 ((ceS h1).2 _ _ _ _ _ _) rfl inz_X4 2 (by decide) zq1_189 rfl dX4_copyFrom_28 ?_
        refine gz_put K (x := (gz_i σ k1 2)) (ceS hk).1 ((ceS hk).2 _ _ _ _ _ _) rfl inz_X4 tyX4 tyX4_ok nmX4 2 (by decide) zq1_189 rfl (tyX4_ok _ (by decide)) rfl rfl (Nat.le_of_ble_eq_true rfl) (peX4_2 hk) dX4_copyFrom_31 ?_
        refine gz_aload_n K dX4_copyFrom_34 0 rfl ?_
        refine gz_aload_n K dX4_copyFrom_35 1 rfl ?_
        refine gz_get K (v := .int (gz_i (sz_i σ k 2 (gz_i σ k1 2)) k1 3)) (ceS h1).1 ((ceS h1).2 _ _ _ _ _ _) rfl inz_X4 3 (by decide) zq1_190 rfl dX4_copyFrom_36 ?_
        refine gz_put K (x := (gz_i (sz_i σ k 2 (gz_i σ k1 2)) k1 3)) (ceS hk).1 ((ceS hk).2 _ _ _ _ _ _) rfl inz_X4 tyX4 tyX4_ok nmX4 3 (by decide) zq1_190 rfl (tyX4_ok _ (by decide)) rfl rfl (Nat.le_of_ble_eq_true rfl) (peX4_3 hk) dX4_copyFrom_39 ?_
        refine gz_iconst K (v := (0 : Int32)) dX4_copyFrom_42 (by decide) ?_
        refine gz_istore_n K [(2, .int (0 : Int32)), (0, .ref (ad k)), (1, .ref (ad k1))] dX4_copyFrom_43 (by decide) rfl ?_
        refine gz_sub [1, 2, 0] rfl ?_
        have ll_44 : ∀ (n_44 : Nat) (σ : Dz) (y2 : Int32) , L_X4_copyFrom_44 k k1 post  n_44 σ y2 → Gz p l e r_X4_copyFrom s m args below meth c D ad ty 3 0 0 (Ez below D ad ty nV0 (fun _ τ => post τ) (fun _ _ => False) args s 0 0) σ 44 [(0, .ref (ad k)), (1, .ref (ad k1)), (2, .int y2)] [] := by
          intro n_44; induction n_44 with
          | zero => intro σ y2 hp; exact False.elim hp
          | succ n_44 ih_44 =>
            intro σ y2 hp
            have hp : B_X4_copyFrom_44 k k1 post  (L_X4_copyFrom_44 k k1 post  n_44) σ y2 := hp
            unfold B_X4_copyFrom_44 at hp
            refine gz_iload_n K dX4_copyFrom_44 2 rfl ?_
            refine gz_iconst K (v := (4 : Int32)) dX4_copyFrom_45 (by decide) ?_
            refine gz_icmp_ge K 70 dX4_copyFrom_46 (by decide) (fun h => ?_) (fun h => ?_)
            · have hp := hp.1 h
              exact gz_vret K hr hp dX4_copyFrom_70 (Nat.le_of_ble_eq_true rfl) (Nat.le_of_ble_eq_true rfl)
            · have hp := hp.2 h
              refine gz_aload_n K dX4_copyFrom_49 0 rfl ?_
              refine gz_get K (v := .ref (ad (k + 2))) (ceS hk).1 ((ceS hk).2 _ _ _ _ _ _) rfl inz_X4 1 (by decide) zq1_188 rfl dX4_copyFrom_50 ?_
              refine gz_iload_n K dX4_copyFrom_53 2 rfl ?_
              obtain ⟨h54, hp⟩ := hp
              refine gz_aald K (cwS2 hk).1 ((cwS2 hk).2 _ _ _ _ _ _) h54 dX4_copyFrom_54 ?_
              refine gz_aload_n K dX4_copyFrom_55 1 rfl ?_
              refine gz_get K (v := .ref (ad (k1 + 2))) (ceS h1).1 ((ceS h1).2 _ _ _ _ _ _) rfl inz_X4 1 (by decide) zq1_188 rfl dX4_copyFrom_56 ?_
              refine gz_iload_n K dX4_copyFrom_59 2 rfl ?_
              obtain ⟨h60, hp⟩ := hp
              refine gz_aald K (cwS2 h1).1 ((cwS2 h1).2 _ _ _ _ _ _) h60 dX4_copyFrom_60 ?_
              refine gz_callV K hex (c_X6_copyFrom K.2.2.2.2.2 K.2.2.1 (isW_S hk (vp_lt h54)) (isW_S h1 (vp_lt h60)) hp) cf_X6_copyFrom zq2_99 (ceW (isW_S hk (vp_lt h54))).1 ((ceW (isW_S hk (vp_lt h54))).2 _ _ _ _ _ _) rfl dX4_copyFrom_61 rfl rfl (Nat.le_of_ble_eq_true rfl) ⟨Nat.le_of_ble_eq_true rfl, Nat.le_of_ble_eq_true rfl⟩ ⟨Nat.le_of_ble_eq_true rfl, Nat.le_of_ble_eq_true rfl⟩ (Nat.le_of_ble_eq_true rfl) (Nat.le_of_ble_eq_true rfl) (fun _ _ h => h.elim) (fun _ τ61 hp => ?_)
              refine gz_norm (st' := []) (cells' := 0) (slots' := 0) rfl rfl rfl ?_
              refine gz_iinc K (v := (y2 + 1)) [(2, .int (y2 + 1)), (0, .ref (ad k)), (1, .ref (ad k1))] dX4_copyFrom_64 2 rfl (by first | rfl | decide) (by decide) rfl ?_
              refine gz_goto K 44 dX4_copyFrom_67 (by decide) ?_
              refine gz_sub [1, 2, 0] rfl ?_
              exact ih_44 τ61 (y2 + 1)  hp
        obtain ⟨n, hp⟩ := hp
        exact ll_44 n (sz_i (sz_i σ k 2 (gz_i σ k1 2)) k 3 (gz_i (sz_i σ k 2 (gz_i σ k1 2)) k1 3)) (0 : Int32)  hp
      · have hp := hp.2 h
        refine gz_aload_n K dX4_copyFrom_8 0 rfl ?_
        refine gz_get K (v := .ref (ad (k + 1))) (ceS hk).1 ((ceS hk).2 _ _ _ _ _ _) rfl inz_X4 0 (by decide) zq1_187 rfl dX4_copyFrom_9 ?_
        refine gz_iload_n K dX4_copyFrom_12 2 rfl ?_
        refine gz_aload_n K dX4_copyFrom_13 1 rfl ?_
        refine gz_get K (v := .ref (ad (k1 + 1))) (ceS h1).1 ((ceS h1).2 _ _ _ _ _ _) rfl inz_X4 0 (by decide) zq1_187 rfl dX4_copyFrom_14 ?_
        refine gz_iload_n K dX4_copyFrom_17 2 rfl ?_
        obtain ⟨h, hp⟩ := hp
        refine gz_iald K (caS h1).1 ((caS h1).2 _ _ _ _ _ _) h dX4_copyFrom_18 ?_
        obtain ⟨h, hp⟩ := hp
        refine gz_iast K (x := (gz_i σ (k1 + 1) (y2).toNatClampNeg)) (caS hk).1 ((caS hk).2 ad ty) h dX4_copyFrom_19 ?_
        refine gz_iinc K (v := (y2 + 1)) [(2, .int (y2 + 1)), (0, .ref (ad k)), (1, .ref (ad k1))] dX4_copyFrom_20 2 rfl (by first | rfl | decide) (by decide) rfl ?_
        refine gz_goto K 2 dX4_copyFrom_23 (by decide) ?_
        refine gz_sub [1, 2, 0] rfl ?_
        exact ih_2 (sz_i σ (k + 1) (y2).toNatClampNeg (gz_i σ (k1 + 1) (y2).toNatClampNeg)) (y2 + 1)  hp
  obtain ⟨n, hp⟩ := hp
  exact ll_2 n σ (0 : Int32)  hp
set_option maxRecDepth 100000 in
set_option maxHeartbeats 4000000 in
theorem c_X4_places {l : Launch} {D : va_G} {ad : Nat → Nat} {ty : Nat → ClassId} (hl : l.stackTraces = false) (hj : ∀ i j, i < 68 → j < 68 → ad i = ad j → i = j) {σ : Dz} {k : Nat} (hk : isS k) {post : Int32 → Prop} (hp : P_X4_places σ k post) : Mz l D ad ty yX4_places cX4_places 1 (some .int) r_X4_places nI0 σ [.ref (ad k)] (fun r τ => σ = τ ∧ post r) (fun _ _ => False) := by
  refine mz_of (by decide) hl hj (Nat.le_of_ble_eq_true rfl) ?_
  intro p e s m args below meth c K hex hr
  unfold P_X4_places at hp
  show Gz p l e r_X4_places s m args below meth c D ad ty 1 0 0 (Ez below D ad ty nI0 (fun r τ => σ = τ ∧ post r) (fun _ _ => False) args s 0 0) σ 0 [(0, .ref (ad k))] []
  refine gz_aload_n K dX4_places_0 0 rfl ?_
  refine gz_get K (v := .int (gz_i σ k 3)) (ceS hk).1 ((ceS hk).2 _ _ _ _ _ _) rfl inz_X4 3 (by decide) zq1_190 rfl dX4_places_1 ?_
  exact gz_iret K hr ⟨rfl, hp⟩ dX4_places_4 (Nat.le_of_ble_eq_true rfl) (Nat.le_of_ble_eq_true rfl)
set_option maxRecDepth 100000 in
set_option maxHeartbeats 4000000 in
theorem c_X4_arrange {l : Launch} {D : va_G} {ad : Nat → Nat} {ty : Nat → ClassId} (hl : l.stackTraces = false) (hj : ∀ i j, i < 68 → j < 68 → ad i = ad j → i = j) {σ : Dz} {k : Nat} (hk : isS k) {x1 : Int32} {post : Dz → Prop} (hp : P_X4_arrange σ k x1 post) : Mz l D ad ty yX4_arrange cX4_arrange 2 none r_X4_arrange nV0 σ [.ref (ad k), .int x1] (fun _ τ => post τ) (fun _ _ => False) := by
  refine mz_of (by decide) hl hj (Nat.le_of_ble_eq_true rfl) ?_
  intro p e s m args below meth c K hex hr
  unfold P_X4_arrange at hp
  show Gz p l e r_X4_arrange s m args below meth c D ad ty 2 0 0 (Ez below D ad ty nV0 (fun _ τ => post τ) (fun _ _ => False) args s 0 0) σ 0 [(0, .ref (ad k)), (1, .int x1)] []
  refine gz_aload_n K dX4_arrange_0 0 rfl ?_
  refine gz_iload_n K dX4_arrange_1 1 rfl ?_
  refine gz_put K (x := x1) (ceS hk).1 ((ceS hk).2 _ _ _ _ _ _) rfl inz_X4 tyX4 tyX4_ok nmX4 3 (by decide) zq1_190 rfl (tyX4_ok _ (by decide)) rfl rfl (Nat.le_of_ble_eq_true rfl) (peX4_3 hk) dX4_arrange_2 ?_
  exact gz_vret K hr hp dX4_arrange_5 (Nat.le_of_ble_eq_true rfl) (Nat.le_of_ble_eq_true rfl)
set_option maxRecDepth 100000 in
set_option maxHeartbeats 4000000 in
theorem c_X4_word {l : Launch} {D : va_G} {ad : Nat → Nat} {ty : Nat → ClassId} (hl : l.stackTraces = false) (hj : ∀ i j, i < 68 → j < 68 → ad i = ad j → i = j) {σ : Dz} {k : Nat} (hk : isS k) {x1 : Int32} {post : Nat → Prop} (hp : P_X4_word σ k x1 post) : Mz l D ad ty yX4_word cX4_word 2 (some (.object "PermutationPuzzle$Word")) r_X4_word (nR0 ad) σ [.ref (ad k), .int x1] (fun r τ => σ = τ ∧ isW r ∧ post r) (fun _ _ => False) := by
  refine mz_of (by decide) hl hj (Nat.le_of_ble_eq_true rfl) ?_
  intro p e s m args below meth c K hex hr
  unfold P_X4_word at hp
  show Gz p l e r_X4_word s m args below meth c D ad ty 2 0 0 (Ez below D ad ty (nR0 ad) (fun r τ => σ = τ ∧ isW r ∧ post r) (fun _ _ => False) args s 0 0) σ 0 [(0, .ref (ad k)), (1, .int x1)] []
  refine gz_aload_n K dX4_word_0 0 rfl ?_
  refine gz_get K (v := .ref (ad (k + 2))) (ceS hk).1 ((ceS hk).2 _ _ _ _ _ _) rfl inz_X4 1 (by decide) zq1_188 rfl dX4_word_1 ?_
  refine gz_iload_n K dX4_word_4 1 rfl ?_
  refine gz_if_lt K 17 dX4_word_5 (by decide) (fun h => ?_) (fun h => ?_)
  · have hp := hp.1 h
    refine gz_iconst K (v := (0 : Int32)) dX4_word_17 (by decide) ?_
    obtain ⟨h18, hp⟩ := hp
    refine gz_aald K (cwS2 hk).1 ((cwS2 hk).2 _ _ _ _ _ _) h18 dX4_word_18 ?_
    exact gz_aret K hr ⟨rfl, (isW_S hk (vp_lt h18)), hp⟩ dX4_word_19 (Nat.le_of_ble_eq_true rfl) (Nat.le_of_ble_eq_true rfl)
  · have hp := hp.2 h
    refine gz_iload_n K dX4_word_8 1 rfl ?_
    refine gz_iconst K (v := (4 : Int32)) dX4_word_9 (by decide) ?_
    refine gz_icmp_ge K 17 dX4_word_10 (by decide) (fun h => ?_) (fun h => ?_)
    · have hp := hp.1 h
      refine gz_iconst K (v := (0 : Int32)) dX4_word_17 (by decide) ?_
      obtain ⟨h18, hp⟩ := hp
      refine gz_aald K (cwS2 hk).1 ((cwS2 hk).2 _ _ _ _ _ _) h18 dX4_word_18 ?_
      exact gz_aret K hr ⟨rfl, (isW_S hk (vp_lt h18)), hp⟩ dX4_word_19 (Nat.le_of_ble_eq_true rfl) (Nat.le_of_ble_eq_true rfl)
    · have hp := hp.2 h
      refine gz_iload_n K dX4_word_13 1 rfl ?_
      refine gz_goto K 18 dX4_word_14 (by decide) ?_
      obtain ⟨h18, hp⟩ := hp
      refine gz_aald K (cwS2 hk).1 ((cwS2 hk).2 _ _ _ _ _ _) h18 dX4_word_18 ?_
      exact gz_aret K hr ⟨rfl, (isW_S hk (vp_lt h18)), hp⟩ dX4_word_19 (Nat.le_of_ble_eq_true rfl) (Nat.le_of_ble_eq_true rfl)
set_option maxRecDepth 100000 in
set_option maxHeartbeats 4000000 in
theorem c_X4_defineMove {l : Launch} {D : va_G} {ad : Nat → Nat} {ty : Nat → ClassId} (hl : l.stackTraces = false) (hj : ∀ i j, i < 68 → j < 68 → ad i = ad j → i = j) {σ : Dz} {k : Nat} (hk : isS k) {x1 : Int32} {x2 : Int32} {post : Dz → Prop} (hp : P_X4_defineMove σ k x1 x2 post) : Mz l D ad ty yX4_defineMove cX4_defineMove 3 none r_X4_defineMove nV0 σ [.ref (ad k), .int x1, .int x2] (fun _ τ => post τ) (fun _ _ => False) := by
  refine mz_of (by decide) hl hj (Nat.le_of_ble_eq_true rfl) ?_
  intro p e s m args below meth c K hex hr
  unfold P_X4_defineMove at hp
  show Gz p l e r_X4_defineMove s m args below meth c D ad ty 3 0 0 (Ez below D ad ty nV0 (fun _ τ => post τ) (fun _ _ => False) args s 0 0) σ 0 [(0, .ref (ad k)), (1, .int x1), (2, .int x2)] []
  refine gz_iload_n K dX4_defineMove_0 1 rfl ?_
  refine gz_if_lt K 9 dX4_defineMove_1 (by decide) (fun h => ?_) (fun h => ?_)
  · have hp := hp.1 h
    exact gz_vret K hr hp dX4_defineMove_9 (Nat.le_of_ble_eq_true rfl) (Nat.le_of_ble_eq_true rfl)
  · have hp := hp.2 h
    refine gz_iload_n K dX4_defineMove_4 1 rfl ?_
    refine gz_iconst K (v := (5 : Int32)) dX4_defineMove_5 (by decide) ?_
    refine gz_icmp_lt K 10 dX4_defineMove_6 (by decide) (fun h => ?_) (fun h => ?_)
    · have hp := hp.1 h
      refine gz_aload_n K dX4_defineMove_10 0 rfl ?_
      refine gz_get K (v := .ref (ad (k + 1))) (ceS hk).1 ((ceS hk).2 _ _ _ _ _ _) rfl inz_X4 0 (by decide) zq1_187 rfl dX4_defineMove_11 ?_
      refine gz_iconst K (v := (2 : Int32)) dX4_defineMove_14 (by decide) ?_
      refine gz_iload_n K dX4_defineMove_15 1 rfl ?_
      refine gz_imul K dX4_defineMove_16 ?_
      refine gz_iload_n K dX4_defineMove_17 2 rfl ?_
      obtain ⟨h, hp⟩ := hp
      refine gz_iast K (x := x2) (caS hk).1 ((caS hk).2 ad ty) h dX4_defineMove_18 ?_
      refine gz_aload_n K dX4_defineMove_19 0 rfl ?_
      refine gz_get K (v := .ref (ad (k + 1))) (ceS hk).1 ((ceS hk).2 _ _ _ _ _ _) rfl inz_X4 0 (by decide) zq1_187 rfl dX4_defineMove_20 ?_
      refine gz_iconst K (v := (2 : Int32)) dX4_defineMove_23 (by decide) ?_
      refine gz_iload_n K dX4_defineMove_24 1 rfl ?_
      refine gz_imul K dX4_defineMove_25 ?_
      refine gz_iconst K (v := (1 : Int32)) dX4_defineMove_26 (by decide) ?_
      refine gz_iadd K dX4_defineMove_27 ?_
      refine gz_iload_n K dX4_defineMove_28 2 rfl ?_
      refine gz_callS K hex (c_X3_inverseOf K.2.2.2.2.2 K.2.2.1 hp) cf_X3_inverseOf zq3_76 dX4_defineMove_29 rfl rfl (Nat.le_of_ble_eq_true rfl) ⟨Nat.le_of_ble_eq_true rfl, Nat.le_of_ble_eq_true rfl⟩ ⟨Nat.le_of_ble_eq_true rfl, Nat.le_of_ble_eq_true rfl⟩ (Nat.le_of_ble_eq_true rfl) (Nat.le_of_ble_eq_true rfl) (fun _ _ h => h.elim) (fun r29 τ hp => ?_)
      obtain ⟨rfl, hp⟩ := hp
      refine gz_norm (st' := [.int r29, .int (((2 : Int32) * x1) + (1 : Int32)), .ref (ad (k + 1))]) (cells' := 0) (slots' := 0) rfl rfl rfl ?_
      obtain ⟨h, hp⟩ := hp
      refine gz_iast K (x := r29) (caS hk).1 ((caS hk).2 ad ty) h dX4_defineMove_32 ?_
      refine gz_aload_n K dX4_defineMove_33 0 rfl ?_
      refine gz_dup K dX4_defineMove_34 rfl ?_
      refine gz_get K (v := .int (gz_i (sz_i (sz_i σ (k + 1) (((2 : Int32) * x1)).toNatClampNeg x2) (k + 1) ((((2 : Int32) * x1) + (1 : Int32))).toNatClampNeg r29) k 2)) (ceS hk).1 ((ceS hk).2 _ _ _ _ _ _) rfl inz_X4 2 (by decide) zq1_189 rfl dX4_defineMove_35 ?_
      refine gz_iconst K (v := (1 : Int32)) dX4_defineMove_38 (by decide) ?_
      refine gz_iload_n K dX4_defineMove_39 1 rfl ?_
      refine gz_ishl K dX4_defineMove_40 ?_
      refine gz_ior K dX4_defineMove_41 ?_
      refine gz_put K (x := ((gz_i (sz_i (sz_i σ (k + 1) (((2 : Int32) * x1)).toNatClampNeg x2) (k + 1) ((((2 : Int32) * x1) + (1 : Int32))).toNatClampNeg r29) k 2) ||| ((1 : Int32) <<< (x1 &&& 31)))) (ceS hk).1 ((ceS hk).2 _ _ _ _ _ _) rfl inz_X4 tyX4 tyX4_ok nmX4 2 (by decide) zq1_189 rfl (tyX4_ok _ (by decide)) rfl rfl (Nat.le_of_ble_eq_true rfl) (peX4_2 hk) dX4_defineMove_42 ?_
      exact gz_vret K hr hp dX4_defineMove_45 (Nat.le_of_ble_eq_true rfl) (Nat.le_of_ble_eq_true rfl)
    · have hp := hp.2 h
      exact gz_vret K hr hp dX4_defineMove_9 (Nat.le_of_ble_eq_true rfl) (Nat.le_of_ble_eq_true rfl)
set_option maxRecDepth 100000 in
set_option maxHeartbeats 4000000 in
theorem c_X5_isName {l : Launch} {D : va_G} {ad : Nat → Nat} {ty : Nat → ClassId} (hl : l.stackTraces = false) (hj : ∀ i j, i < 68 → j < 68 → ad i = ad j → i = j) {σ : Dz} {x0 : Int32} {post : Int32 → Prop} (hp : P_X5_isName x0 post) : Mz l D ad ty yX5_isName cX5_isName 1 (some .boolean) r_X5_isName nI0 σ [.int x0] (fun r τ => σ = τ ∧ post r) (fun _ _ => False) := by
  refine mz_of (by decide) hl hj (Nat.le_of_ble_eq_true rfl) ?_
  intro p e s m args below meth c K hex hr
  unfold P_X5_isName at hp
  show Gz p l e r_X5_isName s m args below meth c D ad ty 1 0 0 (Ez below D ad ty nI0 (fun r τ => σ = τ ∧ post r) (fun _ _ => False) args s 0 0) σ 0 [(0, .int x0)] []
  refine gz_iload_n K dX5_isName_0 0 rfl ?_
  refine gz_bipush K (v := (97 : Int32)) dX5_isName_1 (by decide) ?_
  refine gz_icmp_lt K 16 dX5_isName_3 (by decide) (fun h => ?_) (fun h => ?_)
  · have hp := hp.1 h
    refine gz_iconst K (v := (0 : Int32)) dX5_isName_16 (by decide) ?_
    exact gz_zret K hr (by decide) ⟨rfl, hp⟩ dX5_isName_17 (Nat.le_of_ble_eq_true rfl) (Nat.le_of_ble_eq_true rfl)
  · have hp := hp.2 h
    refine gz_iload_n K dX5_isName_6 0 rfl ?_
    refine gz_bipush K (v := (102 : Int32)) dX5_isName_7 (by decide) ?_
    refine gz_icmp_ge K 16 dX5_isName_9 (by decide) (fun h => ?_) (fun h => ?_)
    · have hp := hp.1 h
      refine gz_iconst K (v := (0 : Int32)) dX5_isName_16 (by decide) ?_
      exact gz_zret K hr (by decide) ⟨rfl, hp⟩ dX5_isName_17 (Nat.le_of_ble_eq_true rfl) (Nat.le_of_ble_eq_true rfl)
    · have hp := hp.2 h
      refine gz_iconst K (v := (1 : Int32)) dX5_isName_12 (by decide) ?_
      refine gz_goto K 17 dX5_isName_13 (by decide) ?_
      exact gz_zret K hr (by decide) ⟨rfl, hp⟩ dX5_isName_17 (Nat.le_of_ble_eq_true rfl) (Nat.le_of_ble_eq_true rfl)
set_option maxRecDepth 100000 in
set_option maxHeartbeats 4000000 in
theorem c_X4_definesNamesIn {l : Launch} {D : va_G} {ad : Nat → Nat} {ty : Nat → ClassId} (hl : l.stackTraces = false) (hj : ∀ i j, i < 68 → j < 68 → ad i = ad j → i = j) {σ : Dz} {k : Nat} (hk : isS k) {post : Int32 → Prop} (hp : P_X4_definesNamesIn σ k post) : Mz l D ad ty yX4_definesNamesIn cX4_definesNamesIn 4 (some .boolean) r_X4_definesNamesIn nI0 σ [.ref (ad k), .ref (ad 1)] (fun r τ => σ = τ ∧ post r) (fun _ _ => False) := by
  refine mz_of (by decide) hl hj (Nat.le_of_ble_eq_true rfl) ?_
  intro p e s m args below meth c K hex hr
  unfold P_X4_definesNamesIn at hp
  show Gz p l e r_X4_definesNamesIn s m args below meth c D ad ty 4 0 0 (Ez below D ad ty nI0 (fun r τ => σ = τ ∧ post r) (fun _ _ => False) args s 0 0) σ 0 [(0, .ref (ad k)), (1, .ref (ad 1))] []
  refine gz_iconst K (v := (0 : Int32)) dX4_definesNamesIn_0 (by decide) ?_
  refine gz_istore_n K [(2, .int (0 : Int32)), (0, .ref (ad k)), (1, .ref (ad 1))] dX4_definesNamesIn_1 (by decide) rfl ?_
  refine gz_sub [1, 2, 0] rfl ?_
  have ll_2 : ∀ (n_2 : Nat) (y2 : Int32) , L_X4_definesNamesIn_2 σ k post  n_2 y2 → Gz p l e r_X4_definesNamesIn s m args below meth c D ad ty 4 0 0 (Ez below D ad ty nI0 (fun r τ => σ = τ ∧ post r) (fun _ _ => False) args s 0 0) σ 2 [(0, .ref (ad k)), (1, .ref (ad 1)), (2, .int y2)] [] := by
    intro n_2; induction n_2 with
    | zero => intro y2 hp; exact False.elim hp
    | succ n_2 ih_2 =>
      intro y2 hp
      have hp : B_X4_definesNamesIn_2 σ k post  (L_X4_definesNamesIn_2 σ k post  n_2) y2 := hp
      unfold B_X4_definesNamesIn_2 at hp
      have bb_36 : ∀ (y2 : Int32) , B_X4_definesNamesIn_36 σ k post (L_X4_definesNamesIn_2 σ k post  n_2) y2 → Gz p l e r_X4_definesNamesIn s m args below meth c D ad ty 4 0 0 (Ez below D ad ty nI0 (fun r τ => σ = τ ∧ post r) (fun _ _ => False) args s 0 0) σ 36 [(0, .ref (ad k)), (1, .ref (ad 1)), (2, .int y2)] [] := by
        intro y2 hp
        unfold B_X4_definesNamesIn_36 at hp
        refine gz_iinc K (v := (y2 + 1)) [(2, .int (y2 + 1)), (0, .ref (ad k)), (1, .ref (ad 1))] dX4_definesNamesIn_36 2 rfl (by first | rfl | decide) (by decide) rfl ?_
        refine gz_goto K 2 dX4_definesNamesIn_39 (by decide) ?_
        refine gz_sub [1, 2, 0] rfl ?_
        exact ih_2 (y2 + 1)  hp
      refine gz_iload_n K dX4_definesNamesIn_2 2 rfl ?_
      refine gz_aload_n K dX4_definesNamesIn_3 1 rfl ?_
      refine gz_callV K hex (c_X5_length K.2.2.2.2.2 K.2.2.1 hp) cf_X5_length zq3_133 (by decide) (ce_1 _ _ _ _ _ _) rfl dX4_definesNamesIn_4 rfl rfl (Nat.le_of_ble_eq_true rfl) ⟨Nat.le_of_ble_eq_true rfl, Nat.le_of_ble_eq_true rfl⟩ ⟨Nat.le_of_ble_eq_true rfl, Nat.le_of_ble_eq_true rfl⟩ (Nat.le_of_ble_eq_true rfl) (Nat.le_of_ble_eq_true rfl) (fun _ _ h => h.elim) (fun r4 τ hp => ?_)
      obtain ⟨rfl, hp⟩ := hp
      refine gz_norm (st' := [.int r4, .int y2]) (cells' := 0) (slots' := 0) rfl rfl rfl ?_
      refine gz_icmp_ge K 42 dX4_definesNamesIn_7 (by decide) (fun h => ?_) (fun h => ?_)
      · have hp := hp.1 h
        refine gz_iconst K (v := (1 : Int32)) dX4_definesNamesIn_42 (by decide) ?_
        exact gz_zret K hr (by decide) ⟨rfl, hp⟩ dX4_definesNamesIn_43 (Nat.le_of_ble_eq_true rfl) (Nat.le_of_ble_eq_true rfl)
      · have hp := hp.2 h
        refine gz_aload_n K dX4_definesNamesIn_10 1 rfl ?_
        refine gz_iload_n K dX4_definesNamesIn_11 2 rfl ?_
        refine gz_callV K hex (c_X5_at K.2.2.2.2.2 K.2.2.1 hp) cf_X5_at zq3_134 (by decide) (ce_1 _ _ _ _ _ _) rfl dX4_definesNamesIn_12 rfl rfl (Nat.le_of_ble_eq_true rfl) ⟨Nat.le_of_ble_eq_true rfl, Nat.le_of_ble_eq_true rfl⟩ ⟨Nat.le_of_ble_eq_true rfl, Nat.le_of_ble_eq_true rfl⟩ (Nat.le_of_ble_eq_true rfl) (Nat.le_of_ble_eq_true rfl) (fun _ _ h => h.elim) (fun r12 τ hp => ?_)
        obtain ⟨rfl, hp⟩ := hp
        refine gz_norm (st' := [.int r12]) (cells' := 0) (slots' := 0) rfl rfl rfl ?_
        refine gz_istore_n K [(3, .int r12), (0, .ref (ad k)), (1, .ref (ad 1)), (2, .int y2)] dX4_definesNamesIn_15 (by decide) rfl ?_
        refine gz_iload_n K dX4_definesNamesIn_16 0 rfl ?_
        refine gz_callS K hex (c_X5_isName K.2.2.2.2.2 K.2.2.1 hp) cf_X5_isName zq3_135 dX4_definesNamesIn_17 rfl rfl (Nat.le_of_ble_eq_true rfl) ⟨Nat.le_of_ble_eq_true rfl, Nat.le_of_ble_eq_true rfl⟩ ⟨Nat.le_of_ble_eq_true rfl, Nat.le_of_ble_eq_true rfl⟩ (Nat.le_of_ble_eq_true rfl) (Nat.le_of_ble_eq_true rfl) (fun _ _ h => h.elim) (fun r17 τ hp => ?_)
        obtain ⟨rfl, hp⟩ := hp
        refine gz_norm (st' := [.int r17]) (cells' := 0) (slots' := 0) rfl rfl rfl ?_
        refine gz_if_eq K 36 dX4_definesNamesIn_20 (by decide) (fun h => ?_) (fun h => ?_)
        · have hp := hp.1 h
          refine gz_sub [1, 2, 3] rfl ?_
          exact bb_36 y2  hp
        · have hp := hp.2 h
          refine gz_aload_n K dX4_definesNamesIn_23 1 rfl ?_
          refine gz_iload_n K dX4_definesNamesIn_24 0 rfl ?_
          refine gz_bipush K (v := (97 : Int32)) dX4_definesNamesIn_25 (by decide) ?_
          refine gz_isub K dX4_definesNamesIn_27 ?_
          refine gz_callV K hex (c_X4_isDefined K.2.2.2.2.2 K.2.2.1 hk hp) cf_X4_isDefined zq3_136 (ceS hk).1 ((ceS hk).2 _ _ _ _ _ _) rfl dX4_definesNamesIn_28 rfl rfl (Nat.le_of_ble_eq_true rfl) ⟨Nat.le_of_ble_eq_true rfl, Nat.le_of_ble_eq_true rfl⟩ ⟨Nat.le_of_ble_eq_true rfl, Nat.le_of_ble_eq_true rfl⟩ (Nat.le_of_ble_eq_true rfl) (Nat.le_of_ble_eq_true rfl) (fun _ _ h => h.elim) (fun r28 τ hp => ?_)
          obtain ⟨rfl, hp⟩ := hp
          refine gz_norm (st' := [.int r28]) (cells' := 0) (slots' := 0) rfl rfl rfl ?_
          refine gz_if_ne K 36 dX4_definesNamesIn_31 (by decide) (fun h => ?_) (fun h => ?_)
          · have hp := hp.1 h
            refine gz_sub [1, 2, 3] rfl ?_
            exact bb_36 y2  hp
          · have hp := hp.2 h
            refine gz_iconst K (v := (0 : Int32)) dX4_definesNamesIn_34 (by decide) ?_
            exact gz_zret K hr (by decide) ⟨rfl, hp⟩ dX4_definesNamesIn_35 (Nat.le_of_ble_eq_true rfl) (Nat.le_of_ble_eq_true rfl)
  obtain ⟨n, hp⟩ := hp
  exact ll_2 n (0 : Int32)  hp
set_option maxRecDepth 100000 in
set_option maxHeartbeats 4000000 in
theorem c_X4_effectOfWord {l : Launch} {D : va_G} {ad : Nat → Nat} {ty : Nat → ClassId} (hl : l.stackTraces = false) (hj : ∀ i j, i < 68 → j < 68 → ad i = ad j → i = j) {σ : Dz} {k : Nat} (hk : isS k) {x1 : Int32} {post : Int32 → Prop} (hp : P_X4_effectOfWord σ k x1 post) : Mz l D ad ty yX4_effectOfWord cX4_effectOfWord 5 (some .int) r_X4_effectOfWord nI0 σ [.ref (ad k), .int x1] (fun r τ => σ = τ ∧ post r) (fun _ _ => False) := by
  refine mz_of (by decide) hl hj (Nat.le_of_ble_eq_true rfl) ?_
  intro p e s m args below meth c K hex hr
  unfold P_X4_effectOfWord at hp
  show Gz p l e r_X4_effectOfWord s m args below meth c D ad ty 5 0 0 (Ez below D ad ty nI0 (fun r τ => σ = τ ∧ post r) (fun _ _ => False) args s 0 0) σ 0 [(0, .ref (ad k)), (1, .int x1)] []
  refine gz_aload_n K dX4_effectOfWord_0 0 rfl ?_
  refine gz_iload_n K dX4_effectOfWord_1 1 rfl ?_
  refine gz_callV K hex (c_X4_word K.2.2.2.2.2 K.2.2.1 hk hp) cf_X4_word zq4_53 (ceS hk).1 ((ceS hk).2 _ _ _ _ _ _) rfl dX4_effectOfWord_2 rfl rfl (Nat.le_of_ble_eq_true rfl) ⟨Nat.le_of_ble_eq_true rfl, Nat.le_of_ble_eq_true rfl⟩ ⟨Nat.le_of_ble_eq_true rfl, Nat.le_of_ble_eq_true rfl⟩ (Nat.le_of_ble_eq_true rfl) (Nat.le_of_ble_eq_true rfl) (fun _ _ h => h.elim) (fun r2 τ hp => ?_)
  obtain ⟨rfl, hp⟩ := hp
  obtain ⟨u2, hp⟩ := hp
  refine gz_norm (st' := [.ref (ad r2)]) (cells' := 0) (slots' := 0) rfl rfl rfl ?_
  refine gz_astore_n K [(2, .ref (ad r2)), (0, .ref (ad k)), (1, .int x1)] dX4_effectOfWord_5 (by decide) rfl ?_
  refine gz_ldc K zq1_166 dX4_effectOfWord_6 ?_
  refine gz_istore_n K [(3, .int (1754760 : Int32)), (2, .ref (ad r2)), (0, .ref (ad k)), (1, .int x1)] dX4_effectOfWord_8 (by decide) rfl ?_
  refine gz_iconst K (v := (0 : Int32)) dX4_effectOfWord_9 (by decide) ?_
  refine gz_istore K [(4, .int (0 : Int32)), (3, .int (1754760 : Int32)), (2, .ref (ad r2)), (0, .ref (ad k)), (1, .int x1)] dX4_effectOfWord_10 (by decide) rfl ?_
  refine gz_sub [3, 2, 1, 0] rfl ?_
  have ll_12 : ∀ (n_12 : Nat) (v2 : Nat) (y3 : Int32) (y4 : Int32) , isW v2 → L_X4_effectOfWord_12 σ k post  n_12 v2 y3 y4 → Gz p l e r_X4_effectOfWord s m args below meth c D ad ty 5 0 0 (Ez below D ad ty nI0 (fun r τ => σ = τ ∧ post r) (fun _ _ => False) args s 0 0) σ 12 [(0, .ref (ad k)), (2, .ref (ad v2)), (3, .int y3), (4, .int y4)] [] := by
    intro n_12; induction n_12 with
    | zero => intro v2 y3 y4 u2 hp; exact False.elim hp
    | succ n_12 ih_12 =>
      intro v2 y3 y4 u2 hp
      have hp : B_X4_effectOfWord_12 σ k post  (L_X4_effectOfWord_12 σ k post  n_12) v2 y3 y4 := hp
      unfold B_X4_effectOfWord_12 at hp
      refine gz_iload K dX4_effectOfWord_12 3 rfl ?_
      refine gz_aload_n K dX4_effectOfWord_14 1 rfl ?_
      refine gz_callV K hex (c_X6_length K.2.2.2.2.2 K.2.2.1 u2 hp) cf_X6_length zq4_54 (ceW u2).1 ((ceW u2).2 _ _ _ _ _ _) rfl dX4_effectOfWord_15 rfl rfl (Nat.le_of_ble_eq_true rfl) ⟨Nat.le_of_ble_eq_true rfl, Nat.le_of_ble_eq_true rfl⟩ ⟨Nat.le_of_ble_eq_true rfl, Nat.le_of_ble_eq_true rfl⟩ (Nat.le_of_ble_eq_true rfl) (Nat.le_of_ble_eq_true rfl) (fun _ _ h => h.elim) (fun r15 τ hp => ?_)
      obtain ⟨rfl, hp⟩ := hp
      refine gz_norm (st' := [.int r15, .int y4]) (cells' := 0) (slots' := 0) rfl rfl rfl ?_
      refine gz_icmp_ge K 42 dX4_effectOfWord_18 (by decide) (fun h => ?_) (fun h => ?_)
      · have hp := hp.1 h
        refine gz_iload_n K dX4_effectOfWord_42 2 rfl ?_
        exact gz_iret K hr ⟨rfl, hp⟩ dX4_effectOfWord_43 (Nat.le_of_ble_eq_true rfl) (Nat.le_of_ble_eq_true rfl)
      · have hp := hp.2 h
        refine gz_iload_n K dX4_effectOfWord_21 2 rfl ?_
        refine gz_aload_n K dX4_effectOfWord_22 0 rfl ?_
        refine gz_aload_n K dX4_effectOfWord_23 1 rfl ?_
        refine gz_iload K dX4_effectOfWord_24 3 rfl ?_
        refine gz_callV K hex (c_X6_at K.2.2.2.2.2 K.2.2.1 u2 hp) cf_X6_at zq4_55 (ceW u2).1 ((ceW u2).2 _ _ _ _ _ _) rfl dX4_effectOfWord_26 rfl rfl (Nat.le_of_ble_eq_true rfl) ⟨Nat.le_of_ble_eq_true rfl, Nat.le_of_ble_eq_true rfl⟩ ⟨Nat.le_of_ble_eq_true rfl, Nat.le_of_ble_eq_true rfl⟩ (Nat.le_of_ble_eq_true rfl) (Nat.le_of_ble_eq_true rfl) (fun _ _ h => h.elim) (fun r26 τ hp => ?_)
        obtain ⟨rfl, hp⟩ := hp
        refine gz_norm (st' := [.int r26, .ref (ad k), .int y3]) (cells' := 0) (slots' := 0) rfl rfl rfl ?_
        refine gz_callV K hex (c_X4_effectOfLetter K.2.2.2.2.2 K.2.2.1 hk hp) cf_X4_effectOfLetter zq4_56 (ceS hk).1 ((ceS hk).2 _ _ _ _ _ _) rfl dX4_effectOfWord_29 rfl rfl (Nat.le_of_ble_eq_true rfl) ⟨Nat.le_of_ble_eq_true rfl, Nat.le_of_ble_eq_true rfl⟩ ⟨Nat.le_of_ble_eq_true rfl, Nat.le_of_ble_eq_true rfl⟩ (Nat.le_of_ble_eq_true rfl) (Nat.le_of_ble_eq_true rfl) (fun _ _ h => h.elim) (fun r29 τ hp => ?_)
        obtain ⟨rfl, hp⟩ := hp
        refine gz_norm (st' := [.int r29, .int y3]) (cells' := 0) (slots' := 0) rfl rfl rfl ?_
        refine gz_callS K hex (c_X3_then K.2.2.2.2.2 K.2.2.1 hp) cf_X3_then zq4_57 dX4_effectOfWord_32 rfl rfl (Nat.le_of_ble_eq_true rfl) ⟨Nat.le_of_ble_eq_true rfl, Nat.le_of_ble_eq_true rfl⟩ ⟨Nat.le_of_ble_eq_true rfl, Nat.le_of_ble_eq_true rfl⟩ (Nat.le_of_ble_eq_true rfl) (Nat.le_of_ble_eq_true rfl) (fun _ _ h => h.elim) (fun r32 τ hp => ?_)
        obtain ⟨rfl, hp⟩ := hp
        refine gz_norm (st' := [.int r32]) (cells' := 0) (slots' := 0) rfl rfl rfl ?_
        refine gz_istore_n K [(3, .int r32), (0, .ref (ad k)), (2, .ref (ad v2)), (4, .int y4)] dX4_effectOfWord_35 (by decide) rfl ?_
        refine gz_iinc K (v := (y4 + 1)) [(4, .int (y4 + 1)), (3, .int r32), (0, .ref (ad k)), (2, .ref (ad v2))] dX4_effectOfWord_36 3 rfl (by first | rfl | decide) (by decide) rfl ?_
        refine gz_goto K 12 dX4_effectOfWord_39 (by decide) ?_
        refine gz_sub [2, 3, 1, 0] rfl ?_
        exact ih_12 v2 r32 (y4 + 1) u2 hp
  obtain ⟨n, hp⟩ := hp
  exact ll_12 n r2 (1754760 : Int32) (0 : Int32) u2 hp
set_option maxRecDepth 100000 in
set_option maxHeartbeats 4000000 in
theorem c_X4_spread {l : Launch} {D : va_G} {ad : Nat → Nat} {ty : Nat → ClassId} (hl : l.stackTraces = false) (hj : ∀ i j, i < 68 → j < 68 → ad i = ad j → i = j) {σ : Dz} {k : Nat} (hk : isS k) {x1 : Int32} {post : Int32 → Prop} (hp : P_X4_spread σ k x1 post) : Mz l D ad ty yX4_spread cX4_spread 5 (some .int) r_X4_spread nI0 σ [.ref (ad k), .int x1] (fun r τ => σ = τ ∧ post r) (fun _ _ => False) := by
  refine mz_of (by decide) hl hj (Nat.le_of_ble_eq_true rfl) ?_
  intro p e s m args below meth c K hex hr
  unfold P_X4_spread at hp
  show Gz p l e r_X4_spread s m args below meth c D ad ty 5 0 0 (Ez below D ad ty nI0 (fun r τ => σ = τ ∧ post r) (fun _ _ => False) args s 0 0) σ 0 [(0, .ref (ad k)), (1, .int x1)] []
  refine gz_iload_n K dX4_spread_0 1 rfl ?_
  refine gz_istore_n K [(2, .int x1), (0, .ref (ad k)), (1, .int x1)] dX4_spread_1 (by decide) rfl ?_
  refine gz_iconst K (v := (0 : Int32)) dX4_spread_2 (by decide) ?_
  refine gz_istore_n K [(3, .int (0 : Int32)), (2, .int x1), (0, .ref (ad k)), (1, .int x1)] dX4_spread_3 (by decide) rfl ?_
  refine gz_sub [2, 3, 1, 0] rfl ?_
  have ll_4 : ∀ (n_4 : Nat) (y1 : Int32) (y2 : Int32) (y3 : Int32) , L_X4_spread_4 σ k post  n_4 y1 y2 y3 → Gz p l e r_X4_spread s m args below meth c D ad ty 5 0 0 (Ez below D ad ty nI0 (fun r τ => σ = τ ∧ post r) (fun _ _ => False) args s 0 0) σ 4 [(0, .ref (ad k)), (1, .int y1), (2, .int y2), (3, .int y3)] [] := by
    intro n_4; induction n_4 with
    | zero => intro y1 y2 y3 hp; exact False.elim hp
    | succ n_4 ih_4 =>
      intro y1 y2 y3 hp
      have hp : B_X4_spread_4 σ k post  (L_X4_spread_4 σ k post  n_4) y1 y2 y3 := hp
      unfold B_X4_spread_4 at hp
      refine gz_iload_n K dX4_spread_4 3 rfl ?_
      refine gz_bipush K (v := (10 : Int32)) dX4_spread_5 (by decide) ?_
      refine gz_icmp_ge K 58 dX4_spread_7 (by decide) (fun h => ?_) (fun h => ?_)
      · have hp := hp.1 h
        refine gz_iload_n K dX4_spread_58 2 rfl ?_
        exact gz_iret K hr ⟨rfl, hp⟩ dX4_spread_59 (Nat.le_of_ble_eq_true rfl) (Nat.le_of_ble_eq_true rfl)
      · have hp := hp.2 h
        refine gz_iconst K (v := (0 : Int32)) dX4_spread_10 (by decide) ?_
        refine gz_istore K [(4, .int (0 : Int32)), (0, .ref (ad k)), (1, .int y1), (2, .int y2), (3, .int y3)] dX4_spread_11 (by decide) rfl ?_
        refine gz_sub [1, 2, 3, 4, 0] rfl ?_
        have ll_13 : ∀ (n_13 : Nat) (y1 : Int32) (y2 : Int32) (y3 : Int32) (y4 : Int32) , L_X4_spread_13 σ k post (L_X4_spread_4 σ k post  n_4) n_13 y1 y2 y3 y4 → Gz p l e r_X4_spread s m args below meth c D ad ty 5 0 0 (Ez below D ad ty nI0 (fun r τ => σ = τ ∧ post r) (fun _ _ => False) args s 0 0) σ 13 [(0, .ref (ad k)), (1, .int y1), (2, .int y2), (3, .int y3), (4, .int y4)] [] := by
          intro n_13; induction n_13 with
          | zero => intro y1 y2 y3 y4 hp; exact False.elim hp
          | succ n_13 ih_13 =>
            intro y1 y2 y3 y4 hp
            have hp : B_X4_spread_13 σ k post (L_X4_spread_4 σ k post  n_4) (L_X4_spread_13 σ k post (L_X4_spread_4 σ k post  n_4) n_13) y1 y2 y3 y4 := hp
            unfold B_X4_spread_13 at hp
            have bb_46 : ∀ (y1 : Int32) (y2 : Int32) (y3 : Int32) (y4 : Int32) , B_X4_spread_46 σ k post (L_X4_spread_4 σ k post  n_4) (L_X4_spread_13 σ k post (L_X4_spread_4 σ k post  n_4) n_13) y1 y2 y3 y4 → Gz p l e r_X4_spread s m args below meth c D ad ty 5 0 0 (Ez below D ad ty nI0 (fun r τ => σ = τ ∧ post r) (fun _ _ => False) args s 0 0) σ 46 [(0, .ref (ad k)), (1, .int y1), (2, .int y2), (3, .int y3), (4, .int y4)] [] := by
              intro y1 y2 y3 y4 hp
              unfold B_X4_spread_46 at hp
              refine gz_iinc K (v := (y4 + 1)) [(4, .int (y4 + 1)), (0, .ref (ad k)), (1, .int y1), (2, .int y2), (3, .int y3)] dX4_spread_46 4 rfl (by first | rfl | decide) (by decide) rfl ?_
              refine gz_goto K 13 dX4_spread_49 (by decide) ?_
              refine gz_sub [1, 2, 3, 4, 0] rfl ?_
              exact ih_13 y1 y2 y3 (y4 + 1)  hp
            refine gz_iload K dX4_spread_13 4 rfl ?_
            refine gz_bipush K (v := (7 : Int32)) dX4_spread_15 (by decide) ?_
            refine gz_icmp_ge K 52 dX4_spread_17 (by decide) (fun h => ?_) (fun h => ?_)
            · have hp := hp.1 h
              refine gz_iinc K (v := (y3 + 1)) [(3, .int (y3 + 1)), (0, .ref (ad k)), (1, .int y1), (2, .int y2), (4, .int y4)] dX4_spread_52 3 rfl (by first | rfl | decide) (by decide) rfl ?_
              refine gz_goto K 4 dX4_spread_55 (by decide) ?_
              refine gz_sub [1, 2, 3, 0] rfl ?_
              exact ih_4 y1 y2 (y3 + 1)  hp
            · have hp := hp.2 h
              refine gz_iload_n K dX4_spread_20 1 rfl ?_
              refine gz_iload K dX4_spread_21 4 rfl ?_
              refine gz_iushr K dX4_spread_23 ?_
              refine gz_iconst K (v := (1 : Int32)) dX4_spread_24 (by decide) ?_
              refine gz_iand K dX4_spread_25 ?_
              refine gz_iconst K (v := (1 : Int32)) dX4_spread_26 (by decide) ?_
              refine gz_icmp_ne K 46 dX4_spread_27 (by decide) (fun h => ?_) (fun h => ?_)
              · have hp := hp.1 h
                exact bb_46 y1 y2 y3 y4  hp
              · have hp := hp.2 h
                refine gz_iload_n K dX4_spread_30 2 rfl ?_
                refine gz_iconst K (v := (1 : Int32)) dX4_spread_31 (by decide) ?_
                refine gz_aload_n K dX4_spread_32 0 rfl ?_
                refine gz_get K (v := .ref (ad (k + 1))) (ceS hk).1 ((ceS hk).2 _ _ _ _ _ _) rfl inz_X4 0 (by decide) zq1_187 rfl dX4_spread_33 ?_
                refine gz_iload_n K dX4_spread_36 3 rfl ?_
                obtain ⟨h, hp⟩ := hp
                refine gz_iald K (caS hk).1 ((caS hk).2 _ _ _ _ _ _) h dX4_spread_37 ?_
                refine gz_iload K dX4_spread_38 4 rfl ?_
                refine gz_callS K hex (c_X3_imageOf K.2.2.2.2.2 K.2.2.1 hp) cf_X3_imageOf zq4_169 dX4_spread_40 rfl rfl (Nat.le_of_ble_eq_true rfl) ⟨Nat.le_of_ble_eq_true rfl, Nat.le_of_ble_eq_true rfl⟩ ⟨Nat.le_of_ble_eq_true rfl, Nat.le_of_ble_eq_true rfl⟩ (Nat.le_of_ble_eq_true rfl) (Nat.le_of_ble_eq_true rfl) (fun _ _ h => h.elim) (fun r40 τ hp => ?_)
                obtain ⟨rfl, hp⟩ := hp
                refine gz_norm (st' := [.int r40, .int (1 : Int32), .int y2]) (cells' := 0) (slots' := 0) rfl rfl rfl ?_
                refine gz_ishl K dX4_spread_43 ?_
                refine gz_ior K dX4_spread_44 ?_
                refine gz_istore_n K [(2, .int (y2 ||| ((1 : Int32) <<< (r40 &&& 31)))), (0, .ref (ad k)), (1, .int y1), (3, .int y3), (4, .int y4)] dX4_spread_45 (by decide) rfl ?_
                refine gz_sub [1, 2, 0, 3, 4] rfl ?_
                exact bb_46 y1 (y2 ||| ((1 : Int32) <<< (r40 &&& 31))) y3 y4  hp
        obtain ⟨n, hp⟩ := hp
        exact ll_13 n y1 y2 y3 (0 : Int32)  hp
  obtain ⟨n, hp⟩ := hp
  exact ll_4 n x1 x1 (0 : Int32)  hp
set_option maxRecDepth 100000 in
set_option maxHeartbeats 4000000 in
theorem c_X5_add {l : Launch} {D : va_G} {ad : Nat → Nat} {ty : Nat → ClassId} (hl : l.stackTraces = false) (hj : ∀ i j, i < 68 → j < 68 → ad i = ad j → i = j) {σ : Dz} {x1 : Int32} {post : Int32 → Dz → Prop} (hp : P_X5_add σ x1 post) : Mz l D ad ty yX5_add cX5_add 2 (some .boolean) r_X5_add nI0 σ [.ref (ad 1), .int x1] post (fun _ _ => False) := by
  refine mz_of (by decide) hl hj (Nat.le_of_ble_eq_true rfl) ?_
  intro p e s m args below meth c K hex hr
  unfold P_X5_add at hp
  show Gz p l e r_X5_add s m args below meth c D ad ty 2 0 0 (Ez below D ad ty nI0 post (fun _ _ => False) args s 0 0) σ 0 [(0, .ref (ad 1)), (1, .int x1)] []
  refine gz_aload_n K dX5_add_0 0 rfl ?_
  refine gz_get K (v := .int (gz_i σ 1 1)) (by decide) (ce_1 _ _ _ _ _ _) rfl inz_X5 1 (by decide) zq1_39 rfl dX5_add_1 ?_
  refine gz_aload_n K dX5_add_4 0 rfl ?_
  refine gz_get K (v := .ref (ad 2)) (by decide) (ce_1 _ _ _ _ _ _) rfl inz_X5 0 (by decide) zq1_38 rfl dX5_add_5 ?_
  refine gz_alen K (v := (40 : Int32)) 0 rfl (by decide) (ce_2 _ _ _ _ _ _) (by decide) dX5_add_8 ?_
  refine gz_icmp_lt K 14 dX5_add_9 (by decide) (fun h => ?_) (fun h => ?_)
  · have hp := hp.1 h
    refine gz_aload_n K dX5_add_14 0 rfl ?_
    refine gz_get K (v := .ref (ad 2)) (by decide) (ce_1 _ _ _ _ _ _) rfl inz_X5 0 (by decide) zq1_38 rfl dX5_add_15 ?_
    refine gz_aload_n K dX5_add_18 0 rfl ?_
    refine gz_get K (v := .int (gz_i σ 1 1)) (by decide) (ce_1 _ _ _ _ _ _) rfl inz_X5 1 (by decide) zq1_39 rfl dX5_add_19 ?_
    refine gz_iload_n K dX5_add_22 1 rfl ?_
    obtain ⟨hb23, hp⟩ := hp
    obtain ⟨h, hp⟩ := hp
    refine gz_castC K (x := x1) (by decide) (ce_2 ad ty) h hb23 dX5_add_23 ?_
    refine gz_aload_n K dX5_add_24 0 rfl ?_
    refine gz_dup K dX5_add_25 rfl ?_
    refine gz_get K (v := .int (gz_i (sz_i σ 2 ((gz_i σ 1 1)).toNatClampNeg x1) 1 1)) (by decide) (ce_1 _ _ _ _ _ _) rfl inz_X5 1 (by decide) zq1_39 rfl dX5_add_26 ?_
    refine gz_iconst K (v := (1 : Int32)) dX5_add_29 (by decide) ?_
    refine gz_iadd K dX5_add_30 ?_
    refine gz_put K (x := ((gz_i (sz_i σ 2 ((gz_i σ 1 1)).toNatClampNeg x1) 1 1) + (1 : Int32))) (by decide) (ce_1 _ _ _ _ _ _) rfl inz_X5 tyX5 tyX5_ok nmX5 1 (by decide) zq1_39 rfl (tyX5_ok _ (by decide)) rfl rfl (Nat.le_of_ble_eq_true rfl) peX5_1 dX5_add_31 ?_
    refine gz_iconst K (v := (1 : Int32)) dX5_add_34 (by decide) ?_
    exact gz_zret K hr (by decide) hp dX5_add_35 (Nat.le_of_ble_eq_true rfl) (Nat.le_of_ble_eq_true rfl)
  · have hp := hp.2 h
    refine gz_iconst K (v := (0 : Int32)) dX5_add_12 (by decide) ?_
    exact gz_zret K hr (by decide) hp dX5_add_13 (Nat.le_of_ble_eq_true rfl) (Nat.le_of_ble_eq_true rfl)
set_option maxRecDepth 100000 in
set_option maxHeartbeats 4000000 in
theorem c_X5_clear {l : Launch} {D : va_G} {ad : Nat → Nat} {ty : Nat → ClassId} (hl : l.stackTraces = false) (hj : ∀ i j, i < 68 → j < 68 → ad i = ad j → i = j) {σ : Dz} {post : Dz → Prop} (hp : P_X5_clear σ post) : Mz l D ad ty yX5_clear cX5_clear 1 none r_X5_clear nV0 σ [.ref (ad 1)] (fun _ τ => post τ) (fun _ _ => False) := by
  refine mz_of (by decide) hl hj (Nat.le_of_ble_eq_true rfl) ?_
  intro p e s m args below meth c K hex hr
  unfold P_X5_clear at hp
  show Gz p l e r_X5_clear s m args below meth c D ad ty 1 0 0 (Ez below D ad ty nV0 (fun _ τ => post τ) (fun _ _ => False) args s 0 0) σ 0 [(0, .ref (ad 1))] []
  refine gz_aload_n K dX5_clear_0 0 rfl ?_
  refine gz_iconst K (v := (0 : Int32)) dX5_clear_1 (by decide) ?_
  refine gz_put K (x := (0 : Int32)) (by decide) (ce_1 _ _ _ _ _ _) rfl inz_X5 tyX5 tyX5_ok nmX5 1 (by decide) zq1_39 rfl (tyX5_ok _ (by decide)) rfl rfl (Nat.le_of_ble_eq_true rfl) peX5_1 dX5_clear_2 ?_
  exact gz_vret K hr hp dX5_clear_5 (Nat.le_of_ble_eq_true rfl) (Nat.le_of_ble_eq_true rfl)
set_option maxRecDepth 100000 in
set_option maxHeartbeats 4000000 in
theorem c_X6_addInverseOf {l : Launch} {D : va_G} {ad : Nat → Nat} {ty : Nat → ClassId} (hl : l.stackTraces = false) (hj : ∀ i j, i < 68 → j < 68 → ad i = ad j → i = j) {σ : Dz} {w : Nat} {w1 : Nat} (hw : isW w) (h1 : isW w1) {post : Int32 → Dz → Prop} (hp : P_X6_addInverseOf σ w w1 post) : Mz l D ad ty yX6_addInverseOf cX6_addInverseOf 2 (some .boolean) r_X6_addInverseOf nI0 σ [.ref (ad w), .ref (ad w1)] post (fun _ _ => False) := by
  refine mz_of (by decide) hl hj (Nat.le_of_ble_eq_true rfl) ?_
  intro p e s m args below meth c K hex hr
  unfold P_X6_addInverseOf at hp
  show Gz p l e r_X6_addInverseOf s m args below meth c D ad ty 2 0 0 (Ez below D ad ty nI0 post (fun _ _ => False) args s 0 0) σ 0 [(0, .ref (ad w)), (1, .ref (ad w1))] []
  refine gz_aload_n K dX6_addInverseOf_0 0 rfl ?_
  refine gz_aload_n K dX6_addInverseOf_1 1 rfl ?_
  refine gz_iconst K (v := (0 : Int32)) dX6_addInverseOf_2 (by decide) ?_
  refine gz_aload_n K dX6_addInverseOf_3 1 rfl ?_
  refine gz_callV K hex (c_X6_length K.2.2.2.2.2 K.2.2.1 h1 hp) cf_X6_length zq2_107 (ceW h1).1 ((ceW h1).2 _ _ _ _ _ _) rfl dX6_addInverseOf_4 rfl rfl (Nat.le_of_ble_eq_true rfl) ⟨Nat.le_of_ble_eq_true rfl, Nat.le_of_ble_eq_true rfl⟩ ⟨Nat.le_of_ble_eq_true rfl, Nat.le_of_ble_eq_true rfl⟩ (Nat.le_of_ble_eq_true rfl) (Nat.le_of_ble_eq_true rfl) (fun _ _ h => h.elim) (fun r4 τ hp => ?_)
  obtain ⟨rfl, hp⟩ := hp
  refine gz_norm (st' := [.int r4, .int (0 : Int32), .ref (ad w1), .ref (ad w)]) (cells' := 0) (slots' := 0) rfl rfl rfl ?_
  refine gz_callV K hex (c_X6_addInverseOfPart K.2.2.2.2.2 K.2.2.1 hw h1 hp) cf_X6_addInverseOfPart zq3_170 (ceW hw).1 ((ceW hw).2 _ _ _ _ _ _) rfl dX6_addInverseOf_7 rfl rfl (Nat.le_of_ble_eq_true rfl) ⟨Nat.le_of_ble_eq_true rfl, Nat.le_of_ble_eq_true rfl⟩ ⟨Nat.le_of_ble_eq_true rfl, Nat.le_of_ble_eq_true rfl⟩ (Nat.le_of_ble_eq_true rfl) (Nat.le_of_ble_eq_true rfl) (fun _ _ h => h.elim) (fun r7 τ7 hp => ?_)
  refine gz_norm (st' := [.int r7]) (cells' := 0) (slots' := 0) rfl rfl rfl ?_
  exact gz_zret K hr (nB hp.1) hp.2 dX6_addInverseOf_10 (Nat.le_of_ble_eq_true rfl) (Nat.le_of_ble_eq_true rfl)
set_option maxRecDepth 100000 in
set_option maxHeartbeats 4000000 in
theorem c_X6_repeatFrom {l : Launch} {D : va_G} {ad : Nat → Nat} {ty : Nat → ClassId} (hl : l.stackTraces = false) (hj : ∀ i j, i < 68 → j < 68 → ad i = ad j → i = j) {σ : Dz} {w : Nat} (hw : isW w) {x1 : Int32} {x2 : Int32} {post : Int32 → Dz → Prop} (hp : P_X6_repeatFrom σ w x1 x2 post) : Mz l D ad ty yX6_repeatFrom cX6_repeatFrom 6 (some .boolean) r_X6_repeatFrom nI0 σ [.ref (ad w), .int x1, .int x2] post (fun _ _ => False) := by
  refine mz_of (by decide) hl hj (Nat.le_of_ble_eq_true rfl) ?_
  intro p e s m args below meth c K hex hr
  unfold P_X6_repeatFrom at hp
  show Gz p l e r_X6_repeatFrom s m args below meth c D ad ty 6 0 0 (Ez below D ad ty nI0 post (fun _ _ => False) args s 0 0) σ 0 [(0, .ref (ad w)), (1, .int x1), (2, .int x2)] []
  refine gz_aload_n K dX6_repeatFrom_0 0 rfl ?_
  refine gz_get K (v := .int (gz_i σ w 1)) (ceW hw).1 ((ceW hw).2 _ _ _ _ _ _) rfl inz_X6 1 (by decide) zq1_173 rfl dX6_repeatFrom_1 ?_
  refine gz_istore_n K [(3, .int (gz_i σ w 1)), (0, .ref (ad w)), (1, .int x1), (2, .int x2)] dX6_repeatFrom_4 (by decide) rfl ?_
  refine gz_iconst K (v := (1 : Int32)) dX6_repeatFrom_5 (by decide) ?_
  refine gz_istore K [(4, .int (1 : Int32)), (3, .int (gz_i σ w 1)), (0, .ref (ad w)), (1, .int x1), (2, .int x2)] dX6_repeatFrom_6 (by decide) rfl ?_
  refine gz_iconst K (v := (1 : Int32)) dX6_repeatFrom_8 (by decide) ?_
  refine gz_istore K [(5, .int (1 : Int32)), (4, .int (1 : Int32)), (3, .int (gz_i σ w 1)), (0, .ref (ad w)), (1, .int x1), (2, .int x2)] dX6_repeatFrom_9 (by decide) rfl ?_
  refine gz_sub [3, 4, 5, 2, 1, 0] rfl ?_
  have ll_11 : ∀ (n_11 : Nat) (σ : Dz) (y1 : Int32) (y2 : Int32) (y3 : Int32) (y4 : Int32) (y5 : Int32) , L_X6_repeatFrom_11 w post  n_11 σ y1 y2 y3 y4 y5 → Gz p l e r_X6_repeatFrom s m args below meth c D ad ty 6 0 0 (Ez below D ad ty nI0 post (fun _ _ => False) args s 0 0) σ 11 [(0, .ref (ad w)), (1, .int y1), (2, .int y2), (3, .int y3), (4, .int y4), (5, .int y5)] [] := by
    intro n_11; induction n_11 with
    | zero => intro σ y1 y2 y3 y4 y5 hp; exact False.elim hp
    | succ n_11 ih_11 =>
      intro σ y1 y2 y3 y4 y5 hp
      have hp : B_X6_repeatFrom_11 w post  (L_X6_repeatFrom_11 w post  n_11) σ y1 y2 y3 y4 y5 := hp
      unfold B_X6_repeatFrom_11 at hp
      refine gz_iload K dX6_repeatFrom_11 4 rfl ?_
      refine gz_if_eq K 37 dX6_repeatFrom_13 (by decide) (fun h => ?_) (fun h => ?_)
      · have hp := hp.1 h
        refine gz_iload K dX6_repeatFrom_37 4 rfl ?_
        exact gz_zret K hr (nB hp.1) hp.2 dX6_repeatFrom_39 (Nat.le_of_ble_eq_true rfl) (Nat.le_of_ble_eq_true rfl)
      · have hp := hp.2 h
        refine gz_iload K dX6_repeatFrom_16 5 rfl ?_
        refine gz_iload_n K dX6_repeatFrom_18 2 rfl ?_
        refine gz_icmp_ge K 37 dX6_repeatFrom_19 (by decide) (fun h => ?_) (fun h => ?_)
        · have hp := hp.1 h
          refine gz_iload K dX6_repeatFrom_37 4 rfl ?_
          exact gz_zret K hr (nB hp.1) hp.2 dX6_repeatFrom_39 (Nat.le_of_ble_eq_true rfl) (Nat.le_of_ble_eq_true rfl)
        · have hp := hp.2 h
          refine gz_aload_n K dX6_repeatFrom_22 0 rfl ?_
          refine gz_aload_n K dX6_repeatFrom_23 0 rfl ?_
          refine gz_iload_n K dX6_repeatFrom_24 1 rfl ?_
          refine gz_iload_n K dX6_repeatFrom_25 3 rfl ?_
          refine gz_callV K hex (c_X6_addPart K.2.2.2.2.2 K.2.2.1 hw hw hp) cf_X6_addPart zq2_111 (ceW hw).1 ((ceW hw).2 _ _ _ _ _ _) rfl dX6_repeatFrom_26 rfl rfl (Nat.le_of_ble_eq_true rfl) ⟨Nat.le_of_ble_eq_true rfl, Nat.le_of_ble_eq_true rfl⟩ ⟨Nat.le_of_ble_eq_true rfl, Nat.le_of_ble_eq_true rfl⟩ (Nat.le_of_ble_eq_true rfl) (Nat.le_of_ble_eq_true rfl) (fun _ _ h => h.elim) (fun r26 τ26 hp => ?_)
          refine gz_norm (st' := [.int r26]) (cells' := 0) (slots' := 0) rfl rfl rfl ?_
          refine gz_istore K [(4, .int r26), (0, .ref (ad w)), (1, .int y1), (2, .int y2), (3, .int y3), (5, .int y5)] dX6_repeatFrom_29 (by decide) rfl ?_
          refine gz_iinc K (v := (y5 + 1)) [(5, .int (y5 + 1)), (4, .int r26), (0, .ref (ad w)), (1, .int y1), (2, .int y2), (3, .int y3)] dX6_repeatFrom_31 5 rfl (by first | rfl | decide) (by decide) rfl ?_
          refine gz_goto K 11 dX6_repeatFrom_34 (by decide) ?_
          refine gz_sub [2, 3, 4, 5, 1, 0] rfl ?_
          exact ih_11 τ26 y1 y2 y3 r26 (y5 + 1)  hp
  obtain ⟨n, hp⟩ := hp
  exact ll_11 n σ x1 x2 (gz_i σ w 1) (1 : Int32) (1 : Int32)  hp
set_option maxRecDepth 100000 in
set_option maxHeartbeats 4000000 in
theorem c_X6_invertFrom {l : Launch} {D : va_G} {ad : Nat → Nat} {ty : Nat → ClassId} (hl : l.stackTraces = false) (hj : ∀ i j, i < 68 → j < 68 → ad i = ad j → i = j) {σ : Dz} {w : Nat} (hw : isW w) {x1 : Int32} {post : Dz → Prop} (hp : P_X6_invertFrom σ w x1 post) : Mz l D ad ty yX6_invertFrom cX6_invertFrom 5 none r_X6_invertFrom nV0 σ [.ref (ad w), .int x1] (fun _ τ => post τ) (fun _ _ => False) := by
  refine mz_of (by decide) hl hj (Nat.le_of_ble_eq_true rfl) ?_
  intro p e s m args below meth c K hex hr
  unfold P_X6_invertFrom at hp
  show Gz p l e r_X6_invertFrom s m args below meth c D ad ty 5 0 0 (Ez below D ad ty nV0 (fun _ τ => post τ) (fun _ _ => False) args s 0 0) σ 0 [(0, .ref (ad w)), (1, .int x1)] []
  refine gz_iload_n K dX6_invertFrom_0 1 rfl ?_
  refine gz_if_ge K 5 dX6_invertFrom_1 (by decide) (fun h => ?_) (fun h => ?_)
  · have hp := hp.1 h
    refine gz_aload_n K dX6_invertFrom_5 0 rfl ?_
    refine gz_get K (v := .int (gz_i σ w 1)) (ceW hw).1 ((ceW hw).2 _ _ _ _ _ _) rfl inz_X6 1 (by decide) zq1_173 rfl dX6_invertFrom_6 ?_
    refine gz_iconst K (v := (1 : Int32)) dX6_invertFrom_9 (by decide) ?_
    refine gz_isub K dX6_invertFrom_10 ?_
    refine gz_istore_n K [(2, .int ((gz_i σ w 1) - (1 : Int32))), (0, .ref (ad w)), (1, .int x1)] dX6_invertFrom_11 (by decide) rfl ?_
    refine gz_iload_n K dX6_invertFrom_12 2 rfl ?_
    refine gz_istore_n K [(3, .int x1), (2, .int ((gz_i σ w 1) - (1 : Int32))), (0, .ref (ad w)), (1, .int x1)] dX6_invertFrom_13 (by decide) rfl ?_
    refine gz_sub [2, 1, 0] rfl ?_
    have ll_14 : ∀ (n_14 : Nat) (σ : Dz) (y2 : Int32) (y3 : Int32) , L_X6_invertFrom_14 w post  n_14 σ y2 y3 → Gz p l e r_X6_invertFrom s m args below meth c D ad ty 5 0 0 (Ez below D ad ty nV0 (fun _ τ => post τ) (fun _ _ => False) args s 0 0) σ 14 [(0, .ref (ad w)), (2, .int y2), (3, .int y3)] [] := by
      intro n_14; induction n_14 with
      | zero => intro σ y2 y3 hp; exact False.elim hp
      | succ n_14 ih_14 =>
        intro σ y2 y3 hp
        have hp : B_X6_invertFrom_14 w post  (L_X6_invertFrom_14 w post  n_14) σ y2 y3 := hp
        unfold B_X6_invertFrom_14 at hp
        refine gz_iload_n K dX6_invertFrom_14 2 rfl ?_
        refine gz_iload_n K dX6_invertFrom_15 1 rfl ?_
        refine gz_icmp_gt K 60 dX6_invertFrom_16 (by decide) (fun h => ?_) (fun h => ?_)
        · have hp := hp.1 h
          exact gz_vret K hr hp dX6_invertFrom_60 (Nat.le_of_ble_eq_true rfl) (Nat.le_of_ble_eq_true rfl)
        · have hp := hp.2 h
          refine gz_aload_n K dX6_invertFrom_19 0 rfl ?_
          refine gz_get K (v := .ref (ad (w + 1))) (ceW hw).1 ((ceW hw).2 _ _ _ _ _ _) rfl inz_X6 0 (by decide) zq1_172 rfl dX6_invertFrom_20 ?_
          refine gz_iload_n K dX6_invertFrom_23 1 rfl ?_
          obtain ⟨h, hp⟩ := hp
          refine gz_iald K (caW hw).1 ((caW hw).2 _ _ _ _ _ _) h dX6_invertFrom_24 ?_
          refine gz_iconst K (v := (1 : Int32)) dX6_invertFrom_25 (by decide) ?_
          refine gz_ixor K dX6_invertFrom_26 ?_
          refine gz_istore K [(4, .int ((gz_i σ (w + 1) (y2).toNatClampNeg) ^^^ (1 : Int32))), (0, .ref (ad w)), (2, .int y2), (3, .int y3)] dX6_invertFrom_27 (by decide) rfl ?_
          refine gz_aload_n K dX6_invertFrom_29 1 rfl ?_
          refine gz_get K (v := .ref (ad (w + 1))) (ceW hw).1 ((ceW hw).2 _ _ _ _ _ _) rfl inz_X6 0 (by decide) zq1_172 rfl dX6_invertFrom_30 ?_
          refine gz_iload_n K dX6_invertFrom_33 2 rfl ?_
          refine gz_aload_n K dX6_invertFrom_34 1 rfl ?_
          refine gz_get K (v := .ref (ad (w + 1))) (ceW hw).1 ((ceW hw).2 _ _ _ _ _ _) rfl inz_X6 0 (by decide) zq1_172 rfl dX6_invertFrom_35 ?_
          refine gz_iload_n K dX6_invertFrom_38 3 rfl ?_
          obtain ⟨h, hp⟩ := hp
          refine gz_iald K (caW hw).1 ((caW hw).2 _ _ _ _ _ _) h dX6_invertFrom_39 ?_
          refine gz_iconst K (v := (1 : Int32)) dX6_invertFrom_40 (by decide) ?_
          refine gz_ixor K dX6_invertFrom_41 ?_
          obtain ⟨h, hp⟩ := hp
          refine gz_iast K (x := ((gz_i σ (w + 1) (y3).toNatClampNeg) ^^^ (1 : Int32))) (caW hw).1 ((caW hw).2 ad ty) h dX6_invertFrom_42 ?_
          refine gz_aload_n K dX6_invertFrom_43 1 rfl ?_
          refine gz_get K (v := .ref (ad (w + 1))) (ceW hw).1 ((ceW hw).2 _ _ _ _ _ _) rfl inz_X6 0 (by decide) zq1_172 rfl dX6_invertFrom_44 ?_
          refine gz_iload_n K dX6_invertFrom_47 3 rfl ?_
          refine gz_iload K dX6_invertFrom_48 0 rfl ?_
          obtain ⟨h, hp⟩ := hp
          refine gz_iast K (x := ((gz_i σ (w + 1) (y2).toNatClampNeg) ^^^ (1 : Int32))) (caW hw).1 ((caW hw).2 ad ty) h dX6_invertFrom_50 ?_
          refine gz_iinc K (v := (y2 + (-1))) [(2, .int (y2 + (-1))), (4, .int ((gz_i σ (w + 1) (y2).toNatClampNeg) ^^^ (1 : Int32))), (0, .ref (ad w)), (3, .int y3)] dX6_invertFrom_51 2 rfl (by first | rfl | decide) (by decide) rfl ?_
          refine gz_iinc K (v := (y3 + 1)) [(3, .int (y3 + 1)), (2, .int (y2 + (-1))), (4, .int ((gz_i σ (w + 1) (y2).toNatClampNeg) ^^^ (1 : Int32))), (0, .ref (ad w))] dX6_invertFrom_54 3 rfl (by first | rfl | decide) (by decide) rfl ?_
          refine gz_goto K 14 dX6_invertFrom_57 (by decide) ?_
          refine gz_sub [3, 1, 0] rfl ?_
          exact ih_14 (sz_i (sz_i σ (w + 1) (y2).toNatClampNeg ((gz_i σ (w + 1) (y3).toNatClampNeg) ^^^ (1 : Int32))) (w + 1) (y3).toNatClampNeg ((gz_i σ (w + 1) (y2).toNatClampNeg) ^^^ (1 : Int32))) (y2 + (-1)) (y3 + 1)  hp
    obtain ⟨n, hp⟩ := hp
    exact ll_14 n σ ((gz_i σ w 1) - (1 : Int32)) x1  hp
  · have hp := hp.2 h
    exact gz_vret K hr hp dX6_invertFrom_4 (Nat.le_of_ble_eq_true rfl) (Nat.le_of_ble_eq_true rfl)
set_option maxRecDepth 100000 in
set_option maxHeartbeats 4000000 in
theorem c_X7_begins {l : Launch} {D : va_G} {ad : Nat → Nat} {ty : Nat → ClassId} (hl : l.stackTraces = false) (hj : ∀ i j, i < 68 → j < 68 → ad i = ad j → i = j) {σ : Dz} {x1 : Int32} {post : Int32 → Dz → Prop} (hp : P_X7_begins σ x1 post) : Mz l D ad ty yX7_begins cX7_begins 2 (some .boolean) r_X7_begins nI0 σ [.ref (ad 4), .int x1] post (fun _ _ => False) := by
  refine mz_of (by decide) hl hj (Nat.le_of_ble_eq_true rfl) ?_
  intro p e s m args below meth c K hex hr
  unfold P_X7_begins at hp
  show Gz p l e r_X7_begins s m args below meth c D ad ty 2 0 0 (Ez below D ad ty nI0 post (fun _ _ => False) args s 0 0) σ 0 [(0, .ref (ad 4)), (1, .int x1)] []
  refine gz_aload_n K dX7_begins_0 0 rfl ?_
  refine gz_get K (v := .int (gz_i σ 4 1)) (by decide) (ce_4 _ _ _ _ _ _) rfl inz_X7 1 (by decide) zq1_79 rfl dX7_begins_1 ?_
  refine gz_if_lt K 19 dX7_begins_4 (by decide) (fun h => ?_) (fun h => ?_)
  · have hp := hp.1 h
    refine gz_iconst K (v := (0 : Int32)) dX7_begins_19 (by decide) ?_
    exact gz_zret K hr (by decide) hp dX7_begins_20 (Nat.le_of_ble_eq_true rfl) (Nat.le_of_ble_eq_true rfl)
  · have hp := hp.2 h
    refine gz_aload_n K dX7_begins_7 0 rfl ?_
    refine gz_get K (v := .int (gz_i σ 4 1)) (by decide) (ce_4 _ _ _ _ _ _) rfl inz_X7 1 (by decide) zq1_79 rfl dX7_begins_8 ?_
    refine gz_aload_n K dX7_begins_11 0 rfl ?_
    refine gz_get K (v := .ref (ad 5)) (by decide) (ce_4 _ _ _ _ _ _) rfl inz_X7 0 (by decide) zq1_78 rfl dX7_begins_12 ?_
    refine gz_alen K (v := (6 : Int32)) 0 rfl (by decide) (ce_5 _ _ _ _ _ _) (by decide) dX7_begins_15 ?_
    refine gz_icmp_lt K 21 dX7_begins_16 (by decide) (fun h => ?_) (fun h => ?_)
    · have hp := hp.1 h
      refine gz_aload_n K dX7_begins_21 0 rfl ?_
      refine gz_get K (v := .ref (ad 5)) (by decide) (ce_4 _ _ _ _ _ _) rfl inz_X7 0 (by decide) zq1_78 rfl dX7_begins_22 ?_
      refine gz_aload_n K dX7_begins_25 0 rfl ?_
      refine gz_get K (v := .int (gz_i σ 4 1)) (by decide) (ce_4 _ _ _ _ _ _) rfl inz_X7 1 (by decide) zq1_79 rfl dX7_begins_26 ?_
      refine gz_iload_n K dX7_begins_29 1 rfl ?_
      obtain ⟨hb30, hp⟩ := hp
      obtain ⟨h, hp⟩ := hp
      refine gz_castC K (x := x1) (by decide) (ce_5 ad ty) h hb30 dX7_begins_30 ?_
      refine gz_aload_n K dX7_begins_31 0 rfl ?_
      refine gz_dup K dX7_begins_32 rfl ?_
      refine gz_get K (v := .int (gz_i (sz_i σ 5 ((gz_i σ 4 1)).toNatClampNeg x1) 4 1)) (by decide) (ce_4 _ _ _ _ _ _) rfl inz_X7 1 (by decide) zq1_79 rfl dX7_begins_33 ?_
      refine gz_iconst K (v := (1 : Int32)) dX7_begins_36 (by decide) ?_
      refine gz_iadd K dX7_begins_37 ?_
      refine gz_put K (x := ((gz_i (sz_i σ 5 ((gz_i σ 4 1)).toNatClampNeg x1) 4 1) + (1 : Int32))) (by decide) (ce_4 _ _ _ _ _ _) rfl inz_X7 tyX7 tyX7_ok nmX7 1 (by decide) zq1_79 rfl (tyX7_ok _ (by decide)) rfl rfl (Nat.le_of_ble_eq_true rfl) peX7_1 dX7_begins_38 ?_
      refine gz_aload_n K dX7_begins_41 0 rfl ?_
      refine gz_iconst K (v := (0 : Int32)) dX7_begins_42 (by decide) ?_
      refine gz_put K (x := (0 : Int32)) (by decide) (ce_4 _ _ _ _ _ _) rfl inz_X7 tyX7 tyX7_ok nmX7 2 (by decide) zq1_80 rfl (tyX7_ok _ (by decide)) rfl rfl (Nat.le_of_ble_eq_true rfl) peX7_2 dX7_begins_43 ?_
      refine gz_iconst K (v := (1 : Int32)) dX7_begins_46 (by decide) ?_
      exact gz_zret K hr (by decide) hp dX7_begins_47 (Nat.le_of_ble_eq_true rfl) (Nat.le_of_ble_eq_true rfl)
    · have hp := hp.2 h
      refine gz_iconst K (v := (0 : Int32)) dX7_begins_19 (by decide) ?_
      exact gz_zret K hr (by decide) hp dX7_begins_20 (Nat.le_of_ble_eq_true rfl) (Nat.le_of_ble_eq_true rfl)
set_option maxRecDepth 100000 in
set_option maxHeartbeats 4000000 in
theorem c_X7_ends {l : Launch} {D : va_G} {ad : Nat → Nat} {ty : Nat → ClassId} (hl : l.stackTraces = false) (hj : ∀ i j, i < 68 → j < 68 → ad i = ad j → i = j) {σ : Dz} {x1 : Int32} {post : Int32 → Dz → Prop} (hp : P_X7_ends σ x1 post) : Mz l D ad ty yX7_ends cX7_ends 2 (some .boolean) r_X7_ends nI0 σ [.ref (ad 4), .int x1] post (fun _ _ => False) := by
  refine mz_of (by decide) hl hj (Nat.le_of_ble_eq_true rfl) ?_
  intro p e s m args below meth c K hex hr
  unfold P_X7_ends at hp
  show Gz p l e r_X7_ends s m args below meth c D ad ty 2 0 0 (Ez below D ad ty nI0 post (fun _ _ => False) args s 0 0) σ 0 [(0, .ref (ad 4)), (1, .int x1)] []
  refine gz_aload_n K dX7_ends_0 0 rfl ?_
  refine gz_get K (v := .int (gz_i σ 4 1)) (by decide) (ce_4 _ _ _ _ _ _) rfl inz_X7 1 (by decide) zq1_79 rfl dX7_ends_1 ?_
  refine gz_if_le K 34 dX7_ends_4 (by decide) (fun h => ?_) (fun h => ?_)
  · have hp := hp.1 h
    refine gz_iconst K (v := (0 : Int32)) dX7_ends_34 (by decide) ?_
    exact gz_zret K hr (by decide) hp dX7_ends_35 (Nat.le_of_ble_eq_true rfl) (Nat.le_of_ble_eq_true rfl)
  · have hp := hp.2 h
    refine gz_aload_n K dX7_ends_7 0 rfl ?_
    refine gz_get K (v := .int (gz_i σ 4 1)) (by decide) (ce_4 _ _ _ _ _ _) rfl inz_X7 1 (by decide) zq1_79 rfl dX7_ends_8 ?_
    refine gz_aload_n K dX7_ends_11 0 rfl ?_
    refine gz_get K (v := .ref (ad 5)) (by decide) (ce_4 _ _ _ _ _ _) rfl inz_X7 0 (by decide) zq1_78 rfl dX7_ends_12 ?_
    refine gz_alen K (v := (6 : Int32)) 0 rfl (by decide) (ce_5 _ _ _ _ _ _) (by decide) dX7_ends_15 ?_
    refine gz_icmp_gt K 34 dX7_ends_16 (by decide) (fun h => ?_) (fun h => ?_)
    · have hp := hp.1 h
      refine gz_iconst K (v := (0 : Int32)) dX7_ends_34 (by decide) ?_
      exact gz_zret K hr (by decide) hp dX7_ends_35 (Nat.le_of_ble_eq_true rfl) (Nat.le_of_ble_eq_true rfl)
    · have hp := hp.2 h
      refine gz_aload_n K dX7_ends_19 0 rfl ?_
      refine gz_get K (v := .ref (ad 5)) (by decide) (ce_4 _ _ _ _ _ _) rfl inz_X7 0 (by decide) zq1_78 rfl dX7_ends_20 ?_
      refine gz_aload_n K dX7_ends_23 0 rfl ?_
      refine gz_get K (v := .int (gz_i σ 4 1)) (by decide) (ce_4 _ _ _ _ _ _) rfl inz_X7 1 (by decide) zq1_79 rfl dX7_ends_24 ?_
      refine gz_iconst K (v := (1 : Int32)) dX7_ends_27 (by decide) ?_
      refine gz_isub K dX7_ends_28 ?_
      obtain ⟨h, hp⟩ := hp
      refine gz_cald K (by decide) (ce_5 _ _ _ _ _ _) h dX7_ends_29 ?_
      refine gz_iload_n K dX7_ends_30 1 rfl ?_
      refine gz_icmp_eq K 36 dX7_ends_31 (by decide) (fun h => ?_) (fun h => ?_)
      · have hp := hp.1 h
        refine gz_aload_n K dX7_ends_36 0 rfl ?_
        refine gz_dup K dX7_ends_37 rfl ?_
        refine gz_get K (v := .int (gz_i σ 4 1)) (by decide) (ce_4 _ _ _ _ _ _) rfl inz_X7 1 (by decide) zq1_79 rfl dX7_ends_38 ?_
        refine gz_iconst K (v := (1 : Int32)) dX7_ends_41 (by decide) ?_
        refine gz_isub K dX7_ends_42 ?_
        refine gz_put K (x := ((gz_i σ 4 1) - (1 : Int32))) (by decide) (ce_4 _ _ _ _ _ _) rfl inz_X7 tyX7 tyX7_ok nmX7 1 (by decide) zq1_79 rfl (tyX7_ok _ (by decide)) rfl rfl (Nat.le_of_ble_eq_true rfl) peX7_1 dX7_ends_43 ?_
        refine gz_aload_n K dX7_ends_46 0 rfl ?_
        refine gz_iconst K (v := (2 : Int32)) dX7_ends_47 (by decide) ?_
        refine gz_put K (x := (2 : Int32)) (by decide) (ce_4 _ _ _ _ _ _) rfl inz_X7 tyX7 tyX7_ok nmX7 2 (by decide) zq1_80 rfl (tyX7_ok _ (by decide)) rfl rfl (Nat.le_of_ble_eq_true rfl) peX7_2 dX7_ends_48 ?_
        refine gz_iconst K (v := (1 : Int32)) dX7_ends_51 (by decide) ?_
        exact gz_zret K hr (by decide) hp dX7_ends_52 (Nat.le_of_ble_eq_true rfl) (Nat.le_of_ble_eq_true rfl)
      · have hp := hp.2 h
        refine gz_iconst K (v := (0 : Int32)) dX7_ends_34 (by decide) ?_
        exact gz_zret K hr (by decide) hp dX7_ends_35 (Nat.le_of_ble_eq_true rfl) (Nat.le_of_ble_eq_true rfl)
set_option maxRecDepth 100000 in
set_option maxHeartbeats 4000000 in
theorem c_X7_accepts {l : Launch} {D : va_G} {ad : Nat → Nat} {ty : Nat → ClassId} (hl : l.stackTraces = false) (hj : ∀ i j, i < 68 → j < 68 → ad i = ad j → i = j) {σ : Dz} {x1 : Int32} {post : Int32 → Dz → Prop} (hp : P_X7_accepts σ x1 post) : Mz l D ad ty yX7_accepts cX7_accepts 3 (some .boolean) r_X7_accepts nI0 σ [.ref (ad 4), .int x1] post (fun _ _ => False) := by
  refine mz_of (by decide) hl hj (Nat.le_of_ble_eq_true rfl) ?_
  intro p e s m args below meth c K hex hr
  unfold P_X7_accepts at hp
  have bb_138 : ∀ (σ : Dz) , B_X7_accepts_138 post  σ → Gz p l e r_X7_accepts s m args below meth c D ad ty 3 0 0 (Ez below D ad ty nI0 post (fun _ _ => False) args s 0 0) σ 138 [(0, .ref (ad 4))] [] := by
    intro σ hp
    unfold B_X7_accepts_138 at hp
    refine gz_iconst K (v := (0 : Int32)) dX7_accepts_138 (by decide) ?_
    refine gz_istore_n K [(2, .int (0 : Int32)), (0, .ref (ad 4))] dX7_accepts_139 (by decide) rfl ?_
    refine gz_aload_n K dX7_accepts_140 1 rfl ?_
    refine gz_iconst K (v := (0 : Int32)) dX7_accepts_141 (by decide) ?_
    refine gz_put K (x := (0 : Int32)) (by decide) (ce_4 _ _ _ _ _ _) rfl inz_X7 tyX7 tyX7_ok nmX7 2 (by decide) zq1_80 rfl (tyX7_ok _ (by decide)) rfl rfl (Nat.le_of_ble_eq_true rfl) peX7_2 dX7_accepts_142 ?_
    refine gz_iload_n K dX7_accepts_145 0 rfl ?_
    exact gz_zret K hr (by decide) hp dX7_accepts_146 (Nat.le_of_ble_eq_true rfl) (Nat.le_of_ble_eq_true rfl)
  show Gz p l e r_X7_accepts s m args below meth c D ad ty 3 0 0 (Ez below D ad ty nI0 post (fun _ _ => False) args s 0 0) σ 0 [(0, .ref (ad 4)), (1, .int x1)] []
  refine gz_iload_n K dX7_accepts_0 1 rfl ?_
  refine gz_callS K hex (c_X5_isName K.2.2.2.2.2 K.2.2.1 hp) cf_X5_isName zq3_118 dX7_accepts_1 rfl rfl (Nat.le_of_ble_eq_true rfl) ⟨Nat.le_of_ble_eq_true rfl, Nat.le_of_ble_eq_true rfl⟩ ⟨Nat.le_of_ble_eq_true rfl, Nat.le_of_ble_eq_true rfl⟩ (Nat.le_of_ble_eq_true rfl) (Nat.le_of_ble_eq_true rfl) (fun _ _ h => h.elim) (fun r1 τ hp => ?_)
  obtain ⟨rfl, hp⟩ := hp
  refine gz_norm (st' := [.int r1]) (cells' := 0) (slots' := 0) rfl rfl rfl ?_
  refine gz_if_eq K 14 dX7_accepts_4 (by decide) (fun h => ?_) (fun h => ?_)
  · have hp := hp.1 h
    refine gz_iload_n K dX7_accepts_14 1 rfl ?_
    refine gz_bipush K (v := (40 : Int32)) dX7_accepts_15 (by decide) ?_
    refine gz_icmp_eq K 26 dX7_accepts_17 (by decide) (fun h => ?_) (fun h => ?_)
    · have hp := hp.1 h
      refine gz_aload_n K dX7_accepts_26 0 rfl ?_
      refine gz_iload_n K dX7_accepts_27 1 rfl ?_
      refine gz_callV K hex (c_X7_begins K.2.2.2.2.2 K.2.2.1 hp) cf_X7_begins zq3_121 (by decide) (ce_4 _ _ _ _ _ _) rfl dX7_accepts_28 rfl rfl (Nat.le_of_ble_eq_true rfl) ⟨Nat.le_of_ble_eq_true rfl, Nat.le_of_ble_eq_true rfl⟩ ⟨Nat.le_of_ble_eq_true rfl, Nat.le_of_ble_eq_true rfl⟩ (Nat.le_of_ble_eq_true rfl) (Nat.le_of_ble_eq_true rfl) (fun _ _ h => h.elim) (fun r28 τ28 hp => ?_)
      refine gz_norm (st' := [.int r28]) (cells' := 0) (slots' := 0) rfl rfl rfl ?_
      exact gz_zret K hr (nB hp.1) hp.2 dX7_accepts_31 (Nat.le_of_ble_eq_true rfl) (Nat.le_of_ble_eq_true rfl)
    · have hp := hp.2 h
      refine gz_iload_n K dX7_accepts_20 1 rfl ?_
      refine gz_bipush K (v := (60 : Int32)) dX7_accepts_21 (by decide) ?_
      refine gz_icmp_ne K 32 dX7_accepts_23 (by decide) (fun h => ?_) (fun h => ?_)
      · have hp := hp.1 h
        refine gz_iload_n K dX7_accepts_32 1 rfl ?_
        refine gz_bipush K (v := (41 : Int32)) dX7_accepts_33 (by decide) ?_
        refine gz_icmp_ne K 45 dX7_accepts_35 (by decide) (fun h => ?_) (fun h => ?_)
        · have hp := hp.1 h
          refine gz_iload_n K dX7_accepts_45 1 rfl ?_
          refine gz_bipush K (v := (62 : Int32)) dX7_accepts_46 (by decide) ?_
          refine gz_icmp_ne K 58 dX7_accepts_48 (by decide) (fun h => ?_) (fun h => ?_)
          · have hp := hp.1 h
            refine gz_iload_n K dX7_accepts_58 1 rfl ?_
            refine gz_bipush K (v := (44 : Int32)) dX7_accepts_59 (by decide) ?_
            refine gz_icmp_ne K 88 dX7_accepts_61 (by decide) (fun h => ?_) (fun h => ?_)
            · have hp := hp.1 h
              refine gz_iload_n K dX7_accepts_88 1 rfl ?_
              refine gz_bipush K (v := (39 : Int32)) dX7_accepts_89 (by decide) ?_
              refine gz_icmp_ne K 115 dX7_accepts_91 (by decide) (fun h => ?_) (fun h => ?_)
              · have hp := hp.1 h
                refine gz_aload_n K dX7_accepts_115 0 rfl ?_
                refine gz_get K (v := .int (gz_i σ 4 2)) (by decide) (ce_4 _ _ _ _ _ _) rfl inz_X7 2 (by decide) zq1_80 rfl dX7_accepts_116 ?_
                refine gz_if_eq K 138 dX7_accepts_119 (by decide) (fun h => ?_) (fun h => ?_)
                · have hp := hp.1 h
                  refine gz_sub [0] rfl ?_
                  exact bb_138 σ  hp
                · have hp := hp.2 h
                  refine gz_iload_n K dX7_accepts_122 1 rfl ?_
                  refine gz_bipush K (v := (50 : Int32)) dX7_accepts_123 (by decide) ?_
                  refine gz_icmp_lt K 138 dX7_accepts_125 (by decide) (fun h => ?_) (fun h => ?_)
                  · have hp := hp.1 h
                    refine gz_sub [0] rfl ?_
                    exact bb_138 σ  hp
                  · have hp := hp.2 h
                    refine gz_iload_n K dX7_accepts_128 1 rfl ?_
                    refine gz_bipush K (v := (57 : Int32)) dX7_accepts_129 (by decide) ?_
                    refine gz_icmp_gt K 138 dX7_accepts_131 (by decide) (fun h => ?_) (fun h => ?_)
                    · have hp := hp.1 h
                      refine gz_sub [0] rfl ?_
                      exact bb_138 σ  hp
                    · have hp := hp.2 h
                      refine gz_iconst K (v := (1 : Int32)) dX7_accepts_134 (by decide) ?_
                      refine gz_goto K 139 dX7_accepts_135 (by decide) ?_
                      refine gz_istore_n K [(2, .int (1 : Int32)), (0, .ref (ad 4)), (1, .int x1)] dX7_accepts_139 (by decide) rfl ?_
                      refine gz_aload_n K dX7_accepts_140 1 rfl ?_
                      refine gz_iconst K (v := (0 : Int32)) dX7_accepts_141 (by decide) ?_
                      refine gz_put K (x := (0 : Int32)) (by decide) (ce_4 _ _ _ _ _ _) rfl inz_X7 tyX7 tyX7_ok nmX7 2 (by decide) zq1_80 rfl (tyX7_ok _ (by decide)) rfl rfl (Nat.le_of_ble_eq_true rfl) peX7_2 dX7_accepts_142 ?_
                      refine gz_iload_n K dX7_accepts_145 0 rfl ?_
                      exact gz_zret K hr (by decide) hp dX7_accepts_146 (Nat.le_of_ble_eq_true rfl) (Nat.le_of_ble_eq_true rfl)
              · have hp := hp.2 h
                refine gz_aload_n K dX7_accepts_94 0 rfl ?_
                refine gz_get K (v := .int (gz_i σ 4 2)) (by decide) (ce_4 _ _ _ _ _ _) rfl inz_X7 2 (by decide) zq1_80 rfl dX7_accepts_95 ?_
                refine gz_iconst K (v := (2 : Int32)) dX7_accepts_98 (by decide) ?_
                refine gz_icmp_ne K 106 dX7_accepts_99 (by decide) (fun h => ?_) (fun h => ?_)
                · have hp := hp.1 h
                  refine gz_iconst K (v := (0 : Int32)) dX7_accepts_106 (by decide) ?_
                  refine gz_istore_n K [(2, .int (0 : Int32)), (0, .ref (ad 4)), (1, .int x1)] dX7_accepts_107 (by decide) rfl ?_
                  refine gz_aload_n K dX7_accepts_108 1 rfl ?_
                  refine gz_iconst K (v := (1 : Int32)) dX7_accepts_109 (by decide) ?_
                  refine gz_put K (x := (1 : Int32)) (by decide) (ce_4 _ _ _ _ _ _) rfl inz_X7 tyX7 tyX7_ok nmX7 2 (by decide) zq1_80 rfl (tyX7_ok _ (by decide)) rfl rfl (Nat.le_of_ble_eq_true rfl) peX7_2 dX7_accepts_110 ?_
                  refine gz_iload_n K dX7_accepts_113 0 rfl ?_
                  exact gz_zret K hr (by decide) hp dX7_accepts_114 (Nat.le_of_ble_eq_true rfl) (Nat.le_of_ble_eq_true rfl)
                · have hp := hp.2 h
                  refine gz_iconst K (v := (1 : Int32)) dX7_accepts_102 (by decide) ?_
                  refine gz_goto K 107 dX7_accepts_103 (by decide) ?_
                  refine gz_istore_n K [(2, .int (1 : Int32)), (0, .ref (ad 4)), (1, .int x1)] dX7_accepts_107 (by decide) rfl ?_
                  refine gz_aload_n K dX7_accepts_108 1 rfl ?_
                  refine gz_iconst K (v := (1 : Int32)) dX7_accepts_109 (by decide) ?_
                  refine gz_put K (x := (1 : Int32)) (by decide) (ce_4 _ _ _ _ _ _) rfl inz_X7 tyX7 tyX7_ok nmX7 2 (by decide) zq1_80 rfl (tyX7_ok _ (by decide)) rfl rfl (Nat.le_of_ble_eq_true rfl) peX7_2 dX7_accepts_110 ?_
                  refine gz_iload_n K dX7_accepts_113 0 rfl ?_
                  exact gz_zret K hr (by decide) hp dX7_accepts_114 (Nat.le_of_ble_eq_true rfl) (Nat.le_of_ble_eq_true rfl)
            · have hp := hp.2 h
              refine gz_aload_n K dX7_accepts_64 0 rfl ?_
              refine gz_bipush K (v := (60 : Int32)) dX7_accepts_65 (by decide) ?_
              refine gz_callV K hex (c_X7_ends K.2.2.2.2.2 K.2.2.1 hp) cf_X7_ends zq3_125 (by decide) (ce_4 _ _ _ _ _ _) rfl dX7_accepts_67 rfl rfl (Nat.le_of_ble_eq_true rfl) ⟨Nat.le_of_ble_eq_true rfl, Nat.le_of_ble_eq_true rfl⟩ ⟨Nat.le_of_ble_eq_true rfl, Nat.le_of_ble_eq_true rfl⟩ (Nat.le_of_ble_eq_true rfl) (Nat.le_of_ble_eq_true rfl) (fun _ _ h => h.elim) (fun r67 τ67 hp => ?_)
              refine gz_norm (st' := [.int r67]) (cells' := 0) (slots' := 0) rfl rfl rfl ?_
              refine gz_if_eq K 86 dX7_accepts_70 (by decide) (fun h => ?_) (fun h => ?_)
              · have hp := hp.1 h
                refine gz_iconst K (v := (0 : Int32)) dX7_accepts_86 (by decide) ?_
                exact gz_zret K hr (by decide) hp dX7_accepts_87 (Nat.le_of_ble_eq_true rfl) (Nat.le_of_ble_eq_true rfl)
              · have hp := hp.2 h
                refine gz_aload_n K dX7_accepts_73 0 rfl ?_
                refine gz_bipush K (v := (44 : Int32)) dX7_accepts_74 (by decide) ?_
                refine gz_callV K hex (c_X7_begins K.2.2.2.2.2 K.2.2.1 hp) cf_X7_begins zq3_121 (by decide) (ce_4 _ _ _ _ _ _) rfl dX7_accepts_76 rfl rfl (Nat.le_of_ble_eq_true rfl) ⟨Nat.le_of_ble_eq_true rfl, Nat.le_of_ble_eq_true rfl⟩ ⟨Nat.le_of_ble_eq_true rfl, Nat.le_of_ble_eq_true rfl⟩ (Nat.le_of_ble_eq_true rfl) (Nat.le_of_ble_eq_true rfl) (fun _ _ h => h.elim) (fun r76 τ76 hp => ?_)
                refine gz_norm (st' := [.int r76]) (cells' := 0) (slots' := 0) rfl rfl rfl ?_
                refine gz_if_eq K 86 dX7_accepts_79 (by decide) (fun h => ?_) (fun h => ?_)
                · have hp := hp.1 h
                  refine gz_iconst K (v := (0 : Int32)) dX7_accepts_86 (by decide) ?_
                  exact gz_zret K hr (by decide) hp dX7_accepts_87 (Nat.le_of_ble_eq_true rfl) (Nat.le_of_ble_eq_true rfl)
                · have hp := hp.2 h
                  refine gz_iconst K (v := (1 : Int32)) dX7_accepts_82 (by decide) ?_
                  refine gz_goto K 87 dX7_accepts_83 (by decide) ?_
                  exact gz_zret K hr (by decide) hp dX7_accepts_87 (Nat.le_of_ble_eq_true rfl) (Nat.le_of_ble_eq_true rfl)
          · have hp := hp.2 h
            refine gz_aload_n K dX7_accepts_51 0 rfl ?_
            refine gz_bipush K (v := (44 : Int32)) dX7_accepts_52 (by decide) ?_
            refine gz_callV K hex (c_X7_ends K.2.2.2.2.2 K.2.2.1 hp) cf_X7_ends zq3_125 (by decide) (ce_4 _ _ _ _ _ _) rfl dX7_accepts_54 rfl rfl (Nat.le_of_ble_eq_true rfl) ⟨Nat.le_of_ble_eq_true rfl, Nat.le_of_ble_eq_true rfl⟩ ⟨Nat.le_of_ble_eq_true rfl, Nat.le_of_ble_eq_true rfl⟩ (Nat.le_of_ble_eq_true rfl) (Nat.le_of_ble_eq_true rfl) (fun _ _ h => h.elim) (fun r54 τ54 hp => ?_)
            refine gz_norm (st' := [.int r54]) (cells' := 0) (slots' := 0) rfl rfl rfl ?_
            exact gz_zret K hr (nB hp.1) hp.2 dX7_accepts_57 (Nat.le_of_ble_eq_true rfl) (Nat.le_of_ble_eq_true rfl)
        · have hp := hp.2 h
          refine gz_aload_n K dX7_accepts_38 0 rfl ?_
          refine gz_bipush K (v := (40 : Int32)) dX7_accepts_39 (by decide) ?_
          refine gz_callV K hex (c_X7_ends K.2.2.2.2.2 K.2.2.1 hp) cf_X7_ends zq3_125 (by decide) (ce_4 _ _ _ _ _ _) rfl dX7_accepts_41 rfl rfl (Nat.le_of_ble_eq_true rfl) ⟨Nat.le_of_ble_eq_true rfl, Nat.le_of_ble_eq_true rfl⟩ ⟨Nat.le_of_ble_eq_true rfl, Nat.le_of_ble_eq_true rfl⟩ (Nat.le_of_ble_eq_true rfl) (Nat.le_of_ble_eq_true rfl) (fun _ _ h => h.elim) (fun r41 τ41 hp => ?_)
          refine gz_norm (st' := [.int r41]) (cells' := 0) (slots' := 0) rfl rfl rfl ?_
          exact gz_zret K hr (nB hp.1) hp.2 dX7_accepts_44 (Nat.le_of_ble_eq_true rfl) (Nat.le_of_ble_eq_true rfl)
      · have hp := hp.2 h
        refine gz_aload_n K dX7_accepts_26 0 rfl ?_
        refine gz_iload_n K dX7_accepts_27 1 rfl ?_
        refine gz_callV K hex (c_X7_begins K.2.2.2.2.2 K.2.2.1 hp) cf_X7_begins zq3_121 (by decide) (ce_4 _ _ _ _ _ _) rfl dX7_accepts_28 rfl rfl (Nat.le_of_ble_eq_true rfl) ⟨Nat.le_of_ble_eq_true rfl, Nat.le_of_ble_eq_true rfl⟩ ⟨Nat.le_of_ble_eq_true rfl, Nat.le_of_ble_eq_true rfl⟩ (Nat.le_of_ble_eq_true rfl) (Nat.le_of_ble_eq_true rfl) (fun _ _ h => h.elim) (fun r28 τ28 hp => ?_)
        refine gz_norm (st' := [.int r28]) (cells' := 0) (slots' := 0) rfl rfl rfl ?_
        exact gz_zret K hr (nB hp.1) hp.2 dX7_accepts_31 (Nat.le_of_ble_eq_true rfl) (Nat.le_of_ble_eq_true rfl)
  · have hp := hp.2 h
    refine gz_aload_n K dX7_accepts_7 0 rfl ?_
    refine gz_iconst K (v := (2 : Int32)) dX7_accepts_8 (by decide) ?_
    refine gz_put K (x := (2 : Int32)) (by decide) (ce_4 _ _ _ _ _ _) rfl inz_X7 tyX7 tyX7_ok nmX7 2 (by decide) zq1_80 rfl (tyX7_ok _ (by decide)) rfl rfl (Nat.le_of_ble_eq_true rfl) peX7_2 dX7_accepts_9 ?_
    refine gz_iconst K (v := (1 : Int32)) dX7_accepts_12 (by decide) ?_
    exact gz_zret K hr (by decide) hp dX7_accepts_13 (Nat.le_of_ble_eq_true rfl) (Nat.le_of_ble_eq_true rfl)
set_option maxRecDepth 100000 in
set_option maxHeartbeats 4000000 in
theorem c_X7_errorIn {l : Launch} {D : va_G} {ad : Nat → Nat} {ty : Nat → ClassId} (hl : l.stackTraces = false) (hj : ∀ i j, i < 68 → j < 68 → ad i = ad j → i = j) {σ : Dz} {post : Int32 → Dz → Prop} (hp : P_X7_errorIn σ post) : Mz l D ad ty yX7_errorIn cX7_errorIn 3 (some .int) r_X7_errorIn nI0 σ [.ref (ad 4), .ref (ad 1)] post (fun _ _ => False) := by
  refine mz_of (by decide) hl hj (Nat.le_of_ble_eq_true rfl) ?_
  intro p e s m args below meth c K hex hr
  unfold P_X7_errorIn at hp
  show Gz p l e r_X7_errorIn s m args below meth c D ad ty 3 0 0 (Ez below D ad ty nI0 post (fun _ _ => False) args s 0 0) σ 0 [(0, .ref (ad 4)), (1, .ref (ad 1))] []
  refine gz_aload_n K dX7_errorIn_0 0 rfl ?_
  refine gz_iconst K (v := (0 : Int32)) dX7_errorIn_1 (by decide) ?_
  refine gz_put K (x := (0 : Int32)) (by decide) (ce_4 _ _ _ _ _ _) rfl inz_X7 tyX7 tyX7_ok nmX7 1 (by decide) zq1_79 rfl (tyX7_ok _ (by decide)) rfl rfl (Nat.le_of_ble_eq_true rfl) peX7_1 dX7_errorIn_2 ?_
  refine gz_aload_n K dX7_errorIn_5 0 rfl ?_
  refine gz_iconst K (v := (0 : Int32)) dX7_errorIn_6 (by decide) ?_
  refine gz_put K (x := (0 : Int32)) (by decide) (ce_4 _ _ _ _ _ _) rfl inz_X7 tyX7 tyX7_ok nmX7 2 (by decide) zq1_80 rfl (tyX7_ok _ (by decide)) rfl rfl (Nat.le_of_ble_eq_true rfl) peX7_2 dX7_errorIn_7 ?_
  refine gz_iconst K (v := (0 : Int32)) dX7_errorIn_10 (by decide) ?_
  refine gz_istore_n K [(2, .int (0 : Int32)), (0, .ref (ad 4)), (1, .ref (ad 1))] dX7_errorIn_11 (by decide) rfl ?_
  refine gz_sub [1, 2, 0] rfl ?_
  have ll_12 : ∀ (n_12 : Nat) (σ : Dz) (y2 : Int32) , L_X7_errorIn_12 post  n_12 σ y2 → Gz p l e r_X7_errorIn s m args below meth c D ad ty 3 0 0 (Ez below D ad ty nI0 post (fun _ _ => False) args s 0 0) σ 12 [(0, .ref (ad 4)), (1, .ref (ad 1)), (2, .int y2)] [] := by
    intro n_12; induction n_12 with
    | zero => intro σ y2 hp; exact False.elim hp
    | succ n_12 ih_12 =>
      intro σ y2 hp
      have hp : B_X7_errorIn_12 post  (L_X7_errorIn_12 post  n_12) σ y2 := hp
      unfold B_X7_errorIn_12 at hp
      refine gz_iload_n K dX7_errorIn_12 2 rfl ?_
      refine gz_aload_n K dX7_errorIn_13 1 rfl ?_
      refine gz_callV K hex (c_X5_length K.2.2.2.2.2 K.2.2.1 hp) cf_X5_length zq3_112 (by decide) (ce_1 _ _ _ _ _ _) rfl dX7_errorIn_14 rfl rfl (Nat.le_of_ble_eq_true rfl) ⟨Nat.le_of_ble_eq_true rfl, Nat.le_of_ble_eq_true rfl⟩ ⟨Nat.le_of_ble_eq_true rfl, Nat.le_of_ble_eq_true rfl⟩ (Nat.le_of_ble_eq_true rfl) (Nat.le_of_ble_eq_true rfl) (fun _ _ h => h.elim) (fun r14 τ hp => ?_)
      obtain ⟨rfl, hp⟩ := hp
      refine gz_norm (st' := [.int r14, .int y2]) (cells' := 0) (slots' := 0) rfl rfl rfl ?_
      refine gz_icmp_ge K 40 dX7_errorIn_17 (by decide) (fun h => ?_) (fun h => ?_)
      · have hp := hp.1 h
        refine gz_aload_n K dX7_errorIn_40 0 rfl ?_
        refine gz_get K (v := .int (gz_i σ 4 1)) (by decide) (ce_4 _ _ _ _ _ _) rfl inz_X7 1 (by decide) zq1_79 rfl dX7_errorIn_41 ?_
        refine gz_if_le K 54 dX7_errorIn_44 (by decide) (fun h => ?_) (fun h => ?_)
        · have hp := hp.1 h
          refine gz_iconst K (v := (-1 : Int32)) dX7_errorIn_54 (by decide) ?_
          exact gz_iret K hr hp dX7_errorIn_55 (Nat.le_of_ble_eq_true rfl) (Nat.le_of_ble_eq_true rfl)
        · have hp := hp.2 h
          refine gz_aload_n K dX7_errorIn_47 1 rfl ?_
          refine gz_callV K hex (c_X5_length K.2.2.2.2.2 K.2.2.1 hp) cf_X5_length zq3_112 (by decide) (ce_1 _ _ _ _ _ _) rfl dX7_errorIn_48 rfl rfl (Nat.le_of_ble_eq_true rfl) ⟨Nat.le_of_ble_eq_true rfl, Nat.le_of_ble_eq_true rfl⟩ ⟨Nat.le_of_ble_eq_true rfl, Nat.le_of_ble_eq_true rfl⟩ (Nat.le_of_ble_eq_true rfl) (Nat.le_of_ble_eq_true rfl) (fun _ _ h => h.elim) (fun r48 τ hp => ?_)
          obtain ⟨rfl, hp⟩ := hp
          refine gz_norm (st' := [.int r48]) (cells' := 0) (slots' := 0) rfl rfl rfl ?_
          refine gz_goto K 55 dX7_errorIn_51 (by decide) ?_
          exact gz_iret K hr hp dX7_errorIn_55 (Nat.le_of_ble_eq_true rfl) (Nat.le_of_ble_eq_true rfl)
      · have hp := hp.2 h
        refine gz_aload_n K dX7_errorIn_20 0 rfl ?_
        refine gz_aload_n K dX7_errorIn_21 1 rfl ?_
        refine gz_iload_n K dX7_errorIn_22 2 rfl ?_
        refine gz_callV K hex (c_X5_at K.2.2.2.2.2 K.2.2.1 hp) cf_X5_at zq3_113 (by decide) (ce_1 _ _ _ _ _ _) rfl dX7_errorIn_23 rfl rfl (Nat.le_of_ble_eq_true rfl) ⟨Nat.le_of_ble_eq_true rfl, Nat.le_of_ble_eq_true rfl⟩ ⟨Nat.le_of_ble_eq_true rfl, Nat.le_of_ble_eq_true rfl⟩ (Nat.le_of_ble_eq_true rfl) (Nat.le_of_ble_eq_true rfl) (fun _ _ h => h.elim) (fun r23 τ hp => ?_)
        obtain ⟨rfl, hp⟩ := hp
        refine gz_norm (st' := [.int r23, .ref (ad 4)]) (cells' := 0) (slots' := 0) rfl rfl rfl ?_
        refine gz_callV K hex (c_X7_accepts K.2.2.2.2.2 K.2.2.1 hp) cf_X7_accepts zq3_114 (by decide) (ce_4 _ _ _ _ _ _) rfl dX7_errorIn_26 rfl rfl (Nat.le_of_ble_eq_true rfl) ⟨Nat.le_of_ble_eq_true rfl, Nat.le_of_ble_eq_true rfl⟩ ⟨Nat.le_of_ble_eq_true rfl, Nat.le_of_ble_eq_true rfl⟩ (Nat.le_of_ble_eq_true rfl) (Nat.le_of_ble_eq_true rfl) (fun _ _ h => h.elim) (fun r26 τ26 hp => ?_)
        refine gz_norm (st' := [.int r26]) (cells' := 0) (slots' := 0) rfl rfl rfl ?_
        refine gz_if_ne K 34 dX7_errorIn_29 (by decide) (fun h => ?_) (fun h => ?_)
        · have hp := hp.1 h
          refine gz_iinc K (v := (y2 + 1)) [(2, .int (y2 + 1)), (0, .ref (ad 4)), (1, .ref (ad 1))] dX7_errorIn_34 2 rfl (by first | rfl | decide) (by decide) rfl ?_
          refine gz_goto K 12 dX7_errorIn_37 (by decide) ?_
          refine gz_sub [1, 2, 0] rfl ?_
          exact ih_12 τ26 (y2 + 1)  hp
        · have hp := hp.2 h
          refine gz_iload_n K dX7_errorIn_32 2 rfl ?_
          exact gz_iret K hr hp dX7_errorIn_33 (Nat.le_of_ble_eq_true rfl) (Nat.le_of_ble_eq_true rfl)
  obtain ⟨n, hp⟩ := hp
  exact ll_12 n (sz_i (sz_i σ 4 1 (0 : Int32)) 4 2 (0 : Int32)) (0 : Int32)  hp
set_option maxRecDepth 100000 in
set_option maxHeartbeats 4000000 in
theorem c_X8_begin {l : Launch} {D : va_G} {ad : Nat → Nat} {ty : Nat → ClassId} (hl : l.stackTraces = false) (hj : ∀ i j, i < 68 → j < 68 → ad i = ad j → i = j) {σ : Dz} {x1 : Int32} {post : Int32 → Dz → Prop} (hp : P_X8_begin σ x1 post) : Mz l D ad ty yX8_begin cX8_begin 2 (some .boolean) r_X8_begin nI0 σ [.ref (ad 6), .int x1] post (fun _ _ => False) := by
  refine mz_of (by decide) hl hj (Nat.le_of_ble_eq_true rfl) ?_
  intro p e s m args below meth c K hex hr
  unfold P_X8_begin at hp
  show Gz p l e r_X8_begin s m args below meth c D ad ty 2 0 0 (Ez below D ad ty nI0 post (fun _ _ => False) args s 0 0) σ 0 [(0, .ref (ad 6)), (1, .int x1)] []
  refine gz_aload_n K dX8_begin_0 0 rfl ?_
  refine gz_get K (v := .int (gz_i σ 6 2)) (by decide) (ce_6 _ _ _ _ _ _) rfl inz_X8 2 (by decide) zq1_96 rfl dX8_begin_1 ?_
  refine gz_if_lt K 19 dX8_begin_4 (by decide) (fun h => ?_) (fun h => ?_)
  · have hp := hp.1 h
    refine gz_iconst K (v := (0 : Int32)) dX8_begin_19 (by decide) ?_
    exact gz_zret K hr (by decide) hp dX8_begin_20 (Nat.le_of_ble_eq_true rfl) (Nat.le_of_ble_eq_true rfl)
  · have hp := hp.2 h
    refine gz_aload_n K dX8_begin_7 0 rfl ?_
    refine gz_get K (v := .int (gz_i σ 6 2)) (by decide) (ce_6 _ _ _ _ _ _) rfl inz_X8 2 (by decide) zq1_96 rfl dX8_begin_8 ?_
    refine gz_aload_n K dX8_begin_11 0 rfl ?_
    refine gz_get K (v := .ref (ad 7)) (by decide) (ce_6 _ _ _ _ _ _) rfl inz_X8 0 (by decide) zq1_94 rfl dX8_begin_12 ?_
    refine gz_alen K (v := (6 : Int32)) 3 rfl (by decide) (ce_7 _ _ _ _ _ _) (by decide) dX8_begin_15 ?_
    refine gz_icmp_lt K 21 dX8_begin_16 (by decide) (fun h => ?_) (fun h => ?_)
    · have hp := hp.1 h
      refine gz_aload_n K dX8_begin_21 0 rfl ?_
      refine gz_get K (v := .ref (ad 7)) (by decide) (ce_6 _ _ _ _ _ _) rfl inz_X8 0 (by decide) zq1_94 rfl dX8_begin_22 ?_
      refine gz_aload_n K dX8_begin_25 0 rfl ?_
      refine gz_get K (v := .int (gz_i σ 6 2)) (by decide) (ce_6 _ _ _ _ _ _) rfl inz_X8 2 (by decide) zq1_96 rfl dX8_begin_26 ?_
      refine gz_iload_n K dX8_begin_29 1 rfl ?_
      obtain ⟨h, hp⟩ := hp
      refine gz_iast K (x := x1) (by decide) (ce_7 ad ty) h dX8_begin_30 ?_
      refine gz_aload_n K dX8_begin_31 0 rfl ?_
      refine gz_dup K dX8_begin_32 rfl ?_
      refine gz_get K (v := .int (gz_i (sz_i σ 7 ((gz_i σ 6 2)).toNatClampNeg x1) 6 2)) (by decide) (ce_6 _ _ _ _ _ _) rfl inz_X8 2 (by decide) zq1_96 rfl dX8_begin_33 ?_
      refine gz_iconst K (v := (1 : Int32)) dX8_begin_36 (by decide) ?_
      refine gz_iadd K dX8_begin_37 ?_
      refine gz_put K (x := ((gz_i (sz_i σ 7 ((gz_i σ 6 2)).toNatClampNeg x1) 6 2) + (1 : Int32))) (by decide) (ce_6 _ _ _ _ _ _) rfl inz_X8 tyX8 tyX8_ok nmX8 2 (by decide) zq1_96 rfl (tyX8_ok _ (by decide)) rfl rfl (Nat.le_of_ble_eq_true rfl) peX8_2 dX8_begin_38 ?_
      refine gz_iconst K (v := (1 : Int32)) dX8_begin_41 (by decide) ?_
      exact gz_zret K hr (by decide) hp dX8_begin_42 (Nat.le_of_ble_eq_true rfl) (Nat.le_of_ble_eq_true rfl)
    · have hp := hp.2 h
      refine gz_iconst K (v := (0 : Int32)) dX8_begin_19 (by decide) ?_
      exact gz_zret K hr (by decide) hp dX8_begin_20 (Nat.le_of_ble_eq_true rfl) (Nat.le_of_ble_eq_true rfl)
set_option maxRecDepth 100000 in
set_option maxHeartbeats 4000000 in
theorem c_X8_divide {l : Launch} {D : va_G} {ad : Nat → Nat} {ty : Nat → ClassId} (hl : l.stackTraces = false) (hj : ∀ i j, i < 68 → j < 68 → ad i = ad j → i = j) {σ : Dz} {x1 : Int32} {post : Int32 → Dz → Prop} (hp : P_X8_divide σ x1 post) : Mz l D ad ty yX8_divide cX8_divide 2 (some .boolean) r_X8_divide nI0 σ [.ref (ad 6), .int x1] post (fun _ _ => False) := by
  refine mz_of (by decide) hl hj (Nat.le_of_ble_eq_true rfl) ?_
  intro p e s m args below meth c K hex hr
  unfold P_X8_divide at hp
  show Gz p l e r_X8_divide s m args below meth c D ad ty 2 0 0 (Ez below D ad ty nI0 post (fun _ _ => False) args s 0 0) σ 0 [(0, .ref (ad 6)), (1, .int x1)] []
  refine gz_aload_n K dX8_divide_0 0 rfl ?_
  refine gz_get K (v := .int (gz_i σ 6 2)) (by decide) (ce_6 _ _ _ _ _ _) rfl inz_X8 2 (by decide) zq1_96 rfl dX8_divide_1 ?_
  refine gz_if_le K 19 dX8_divide_4 (by decide) (fun h => ?_) (fun h => ?_)
  · have hp := hp.1 h
    refine gz_iconst K (v := (0 : Int32)) dX8_divide_19 (by decide) ?_
    exact gz_zret K hr (by decide) hp dX8_divide_20 (Nat.le_of_ble_eq_true rfl) (Nat.le_of_ble_eq_true rfl)
  · have hp := hp.2 h
    refine gz_aload_n K dX8_divide_7 0 rfl ?_
    refine gz_get K (v := .int (gz_i σ 6 2)) (by decide) (ce_6 _ _ _ _ _ _) rfl inz_X8 2 (by decide) zq1_96 rfl dX8_divide_8 ?_
    refine gz_aload_n K dX8_divide_11 0 rfl ?_
    refine gz_get K (v := .ref (ad 8)) (by decide) (ce_6 _ _ _ _ _ _) rfl inz_X8 1 (by decide) zq1_95 rfl dX8_divide_12 ?_
    refine gz_alen K (v := (6 : Int32)) 3 rfl (by decide) (ce_8 _ _ _ _ _ _) (by decide) dX8_divide_15 ?_
    refine gz_icmp_le K 21 dX8_divide_16 (by decide) (fun h => ?_) (fun h => ?_)
    · have hp := hp.1 h
      refine gz_aload_n K dX8_divide_21 0 rfl ?_
      refine gz_get K (v := .ref (ad 8)) (by decide) (ce_6 _ _ _ _ _ _) rfl inz_X8 1 (by decide) zq1_95 rfl dX8_divide_22 ?_
      refine gz_aload_n K dX8_divide_25 0 rfl ?_
      refine gz_get K (v := .int (gz_i σ 6 2)) (by decide) (ce_6 _ _ _ _ _ _) rfl inz_X8 2 (by decide) zq1_96 rfl dX8_divide_26 ?_
      refine gz_iconst K (v := (1 : Int32)) dX8_divide_29 (by decide) ?_
      refine gz_isub K dX8_divide_30 ?_
      refine gz_iload_n K dX8_divide_31 1 rfl ?_
      obtain ⟨h, hp⟩ := hp
      refine gz_iast K (x := x1) (by decide) (ce_8 ad ty) h dX8_divide_32 ?_
      refine gz_iconst K (v := (1 : Int32)) dX8_divide_33 (by decide) ?_
      exact gz_zret K hr (by decide) hp dX8_divide_34 (Nat.le_of_ble_eq_true rfl) (Nat.le_of_ble_eq_true rfl)
    · have hp := hp.2 h
      refine gz_iconst K (v := (0 : Int32)) dX8_divide_19 (by decide) ?_
      exact gz_zret K hr (by decide) hp dX8_divide_20 (Nat.le_of_ble_eq_true rfl) (Nat.le_of_ble_eq_true rfl)
set_option maxRecDepth 100000 in
set_option maxHeartbeats 4000000 in
theorem c_X8_end {l : Launch} {D : va_G} {ad : Nat → Nat} {ty : Nat → ClassId} (hl : l.stackTraces = false) (hj : ∀ i j, i < 68 → j < 68 → ad i = ad j → i = j) {σ : Dz} {w2 : Nat} (h2 : isW w2) {x1 : Int32} {post : Int32 → Dz → Prop} (hp : P_X8_end σ w2 x1 post) : Mz l D ad ty yX8_end cX8_end 3 (some .boolean) r_X8_end nI0 σ [.ref (ad 6), .int x1, .ref (ad w2)] post (fun _ _ => False) := by
  refine mz_of (by decide) hl hj (Nat.le_of_ble_eq_true rfl) ?_
  intro p e s m args below meth c K hex hr
  unfold P_X8_end at hp
  show Gz p l e r_X8_end s m args below meth c D ad ty 3 0 0 (Ez below D ad ty nI0 post (fun _ _ => False) args s 0 0) σ 0 [(0, .ref (ad 6)), (1, .int x1), (2, .ref (ad w2))] []
  refine gz_aload_n K dX8_end_0 0 rfl ?_
  refine gz_get K (v := .int (gz_i σ 6 2)) (by decide) (ce_6 _ _ _ _ _ _) rfl inz_X8 2 (by decide) zq1_96 rfl dX8_end_1 ?_
  refine gz_if_le K 19 dX8_end_4 (by decide) (fun h => ?_) (fun h => ?_)
  · have hp := hp.1 h
    refine gz_iconst K (v := (0 : Int32)) dX8_end_19 (by decide) ?_
    exact gz_zret K hr (by decide) hp dX8_end_20 (Nat.le_of_ble_eq_true rfl) (Nat.le_of_ble_eq_true rfl)
  · have hp := hp.2 h
    refine gz_aload_n K dX8_end_7 0 rfl ?_
    refine gz_get K (v := .int (gz_i σ 6 2)) (by decide) (ce_6 _ _ _ _ _ _) rfl inz_X8 2 (by decide) zq1_96 rfl dX8_end_8 ?_
    refine gz_aload_n K dX8_end_11 0 rfl ?_
    refine gz_get K (v := .ref (ad 7)) (by decide) (ce_6 _ _ _ _ _ _) rfl inz_X8 0 (by decide) zq1_94 rfl dX8_end_12 ?_
    refine gz_alen K (v := (6 : Int32)) 3 rfl (by decide) (ce_7 _ _ _ _ _ _) (by decide) dX8_end_15 ?_
    refine gz_icmp_le K 21 dX8_end_16 (by decide) (fun h => ?_) (fun h => ?_)
    · have hp := hp.1 h
      refine gz_aload_n K dX8_end_21 0 rfl ?_
      refine gz_dup K dX8_end_22 rfl ?_
      refine gz_get K (v := .int (gz_i σ 6 2)) (by decide) (ce_6 _ _ _ _ _ _) rfl inz_X8 2 (by decide) zq1_96 rfl dX8_end_23 ?_
      refine gz_iconst K (v := (1 : Int32)) dX8_end_26 (by decide) ?_
      refine gz_isub K dX8_end_27 ?_
      refine gz_put K (x := ((gz_i σ 6 2) - (1 : Int32))) (by decide) (ce_6 _ _ _ _ _ _) rfl inz_X8 tyX8 tyX8_ok nmX8 2 (by decide) zq1_96 rfl (tyX8_ok _ (by decide)) rfl rfl (Nat.le_of_ble_eq_true rfl) peX8_2 dX8_end_28 ?_
      refine gz_aload_n K dX8_end_31 0 rfl ?_
      refine gz_aload_n K dX8_end_32 0 rfl ?_
      refine gz_get K (v := .ref (ad 7)) (by decide) (ce_6 _ _ _ _ _ _) rfl inz_X8 0 (by decide) zq1_94 rfl dX8_end_33 ?_
      refine gz_aload_n K dX8_end_36 0 rfl ?_
      refine gz_get K (v := .int (gz_i (sz_i σ 6 2 ((gz_i σ 6 2) - (1 : Int32))) 6 2)) (by decide) (ce_6 _ _ _ _ _ _) rfl inz_X8 2 (by decide) zq1_96 rfl dX8_end_37 ?_
      obtain ⟨h, hp⟩ := hp
      refine gz_iald K (by decide) (ce_7 _ _ _ _ _ _) h dX8_end_40 ?_
      refine gz_put K (x := (gz_i (sz_i σ 6 2 ((gz_i σ 6 2) - (1 : Int32))) 7 ((gz_i (sz_i σ 6 2 ((gz_i σ 6 2) - (1 : Int32))) 6 2)).toNatClampNeg)) (by decide) (ce_6 _ _ _ _ _ _) rfl inz_X8 tyX8 tyX8_ok nmX8 3 (by decide) zq1_97 rfl (tyX8_ok _ (by decide)) rfl rfl (Nat.le_of_ble_eq_true rfl) peX8_3 dX8_end_41 ?_
      refine gz_iload_n K dX8_end_44 1 rfl ?_
      refine gz_if_eq K 73 dX8_end_45 (by decide) (fun h => ?_) (fun h => ?_)
      · have hp := hp.1 h
        refine gz_iconst K (v := (1 : Int32)) dX8_end_73 (by decide) ?_
        refine gz_goto K 78 dX8_end_74 (by decide) ?_
        exact gz_zret K hr (by decide) hp dX8_end_78 (Nat.le_of_ble_eq_true rfl) (Nat.le_of_ble_eq_true rfl)
      · have hp := hp.2 h
        refine gz_aload_n K dX8_end_48 2 rfl ?_
        refine gz_aload_n K dX8_end_49 0 rfl ?_
        refine gz_get K (v := .ref (ad 7)) (by decide) (ce_6 _ _ _ _ _ _) rfl inz_X8 0 (by decide) zq1_94 rfl dX8_end_50 ?_
        refine gz_aload_n K dX8_end_53 0 rfl ?_
        refine gz_get K (v := .int (gz_i (sz_i (sz_i σ 6 2 ((gz_i σ 6 2) - (1 : Int32))) 6 3 (gz_i (sz_i σ 6 2 ((gz_i σ 6 2) - (1 : Int32))) 7 ((gz_i (sz_i σ 6 2 ((gz_i σ 6 2) - (1 : Int32))) 6 2)).toNatClampNeg)) 6 2)) (by decide) (ce_6 _ _ _ _ _ _) rfl inz_X8 2 (by decide) zq1_96 rfl dX8_end_54 ?_
        obtain ⟨h, hp⟩ := hp
        refine gz_iald K (by decide) (ce_7 _ _ _ _ _ _) h dX8_end_57 ?_
        refine gz_aload_n K dX8_end_58 0 rfl ?_
        refine gz_get K (v := .ref (ad 8)) (by decide) (ce_6 _ _ _ _ _ _) rfl inz_X8 1 (by decide) zq1_95 rfl dX8_end_59 ?_
        refine gz_aload_n K dX8_end_62 0 rfl ?_
        refine gz_get K (v := .int (gz_i (sz_i (sz_i σ 6 2 ((gz_i σ 6 2) - (1 : Int32))) 6 3 (gz_i (sz_i σ 6 2 ((gz_i σ 6 2) - (1 : Int32))) 7 ((gz_i (sz_i σ 6 2 ((gz_i σ 6 2) - (1 : Int32))) 6 2)).toNatClampNeg)) 6 2)) (by decide) (ce_6 _ _ _ _ _ _) rfl inz_X8 2 (by decide) zq1_96 rfl dX8_end_63 ?_
        obtain ⟨h, hp⟩ := hp
        refine gz_iald K (by decide) (ce_8 _ _ _ _ _ _) h dX8_end_66 ?_
        refine gz_callV K hex (c_X6_closeCommutator K.2.2.2.2.2 K.2.2.1 h2 hp) cf_X6_closeCommutator zq3_166 (ceW h2).1 ((ceW h2).2 _ _ _ _ _ _) rfl dX8_end_67 rfl rfl (Nat.le_of_ble_eq_true rfl) ⟨Nat.le_of_ble_eq_true rfl, Nat.le_of_ble_eq_true rfl⟩ ⟨Nat.le_of_ble_eq_true rfl, Nat.le_of_ble_eq_true rfl⟩ (Nat.le_of_ble_eq_true rfl) (Nat.le_of_ble_eq_true rfl) (fun _ _ h => h.elim) (fun r67 τ67 hp => ?_)
        refine gz_norm (st' := [.int r67]) (cells' := 0) (slots' := 0) rfl rfl rfl ?_
        refine gz_if_eq K 77 dX8_end_70 (by decide) (fun h => ?_) (fun h => ?_)
        · have hp := hp.1 h
          refine gz_iconst K (v := (0 : Int32)) dX8_end_77 (by decide) ?_
          exact gz_zret K hr (by decide) hp dX8_end_78 (Nat.le_of_ble_eq_true rfl) (Nat.le_of_ble_eq_true rfl)
        · have hp := hp.2 h
          refine gz_iconst K (v := (1 : Int32)) dX8_end_73 (by decide) ?_
          refine gz_goto K 78 dX8_end_74 (by decide) ?_
          exact gz_zret K hr (by decide) hp dX8_end_78 (Nat.le_of_ble_eq_true rfl) (Nat.le_of_ble_eq_true rfl)
    · have hp := hp.2 h
      refine gz_iconst K (v := (0 : Int32)) dX8_end_19 (by decide) ?_
      exact gz_zret K hr (by decide) hp dX8_end_20 (Nat.le_of_ble_eq_true rfl) (Nat.le_of_ble_eq_true rfl)
set_option maxRecDepth 100000 in
set_option maxHeartbeats 4000000 in
theorem c_X8_writeNext {l : Launch} {D : va_G} {ad : Nat → Nat} {ty : Nat → ClassId} (hl : l.stackTraces = false) (hj : ∀ i j, i < 68 → j < 68 → ad i = ad j → i = j) {σ : Dz} {w2 : Nat} (h2 : isW w2) {x1 : Int32} {post : Int32 → Dz → Prop} (hp : P_X8_writeNext σ w2 x1 post) : Mz l D ad ty yX8_writeNext cX8_writeNext 3 (some .boolean) r_X8_writeNext nI0 σ [.ref (ad 6), .int x1, .ref (ad w2)] post (fun _ _ => False) := by
  refine mz_of (by decide) hl hj (Nat.le_of_ble_eq_true rfl) ?_
  intro p e s m args below meth c K hex hr
  unfold P_X8_writeNext at hp
  have bb_74 : ∀ (σ : Dz) (y1 : Int32) , B_X8_writeNext_74 w2 post  σ y1 → Gz p l e r_X8_writeNext s m args below meth c D ad ty 3 0 0 (Ez below D ad ty nI0 post (fun _ _ => False) args s 0 0) σ 74 [(0, .ref (ad 6)), (1, .int y1), (2, .ref (ad w2))] [] := by
    intro σ y1 hp
    unfold B_X8_writeNext_74 at hp
    refine gz_aload_n K dX8_writeNext_74 0 rfl ?_
    refine gz_iload_n K dX8_writeNext_75 1 rfl ?_
    refine gz_bipush K (v := (62 : Int32)) dX8_writeNext_76 (by decide) ?_
    refine gz_icmp_ne K 85 dX8_writeNext_78 (by decide) (fun h => ?_) (fun h => ?_)
    · have hp := hp.1 h
      refine gz_iconst K (v := (0 : Int32)) dX8_writeNext_85 (by decide) ?_
      refine gz_aload_n K dX8_writeNext_86 2 rfl ?_
      refine gz_callV K hex (c_X8_end K.2.2.2.2.2 K.2.2.1 h2 hp) cf_X8_end zq3_162 (by decide) (ce_6 _ _ _ _ _ _) rfl dX8_writeNext_87 rfl rfl (Nat.le_of_ble_eq_true rfl) ⟨Nat.le_of_ble_eq_true rfl, Nat.le_of_ble_eq_true rfl⟩ ⟨Nat.le_of_ble_eq_true rfl, Nat.le_of_ble_eq_true rfl⟩ (Nat.le_of_ble_eq_true rfl) (Nat.le_of_ble_eq_true rfl) (fun _ _ h => h.elim) (fun r87 τ87 hp => ?_)
      refine gz_norm (st' := [.int r87]) (cells' := 0) (slots' := 0) rfl rfl rfl ?_
      exact gz_zret K hr (nB hp.1) hp.2 dX8_writeNext_90 (Nat.le_of_ble_eq_true rfl) (Nat.le_of_ble_eq_true rfl)
    · have hp := hp.2 h
      refine gz_iconst K (v := (1 : Int32)) dX8_writeNext_81 (by decide) ?_
      refine gz_goto K 86 dX8_writeNext_82 (by decide) ?_
      refine gz_aload_n K dX8_writeNext_86 2 rfl ?_
      refine gz_callV K hex (c_X8_end K.2.2.2.2.2 K.2.2.1 h2 hp) cf_X8_end zq3_162 (by decide) (ce_6 _ _ _ _ _ _) rfl dX8_writeNext_87 rfl rfl (Nat.le_of_ble_eq_true rfl) ⟨Nat.le_of_ble_eq_true rfl, Nat.le_of_ble_eq_true rfl⟩ ⟨Nat.le_of_ble_eq_true rfl, Nat.le_of_ble_eq_true rfl⟩ (Nat.le_of_ble_eq_true rfl) (Nat.le_of_ble_eq_true rfl) (fun _ _ h => h.elim) (fun r87 τ87 hp => ?_)
      refine gz_norm (st' := [.int r87]) (cells' := 0) (slots' := 0) rfl rfl rfl ?_
      exact gz_zret K hr (nB hp.1) hp.2 dX8_writeNext_90 (Nat.le_of_ble_eq_true rfl) (Nat.le_of_ble_eq_true rfl)
  show Gz p l e r_X8_writeNext s m args below meth c D ad ty 3 0 0 (Ez below D ad ty nI0 post (fun _ _ => False) args s 0 0) σ 0 [(0, .ref (ad 6)), (1, .int x1), (2, .ref (ad w2))] []
  refine gz_iload_n K dX8_writeNext_0 1 rfl ?_
  refine gz_callS K hex (c_X5_isName K.2.2.2.2.2 K.2.2.1 hp) cf_X5_isName zq3_151 dX8_writeNext_1 rfl rfl (Nat.le_of_ble_eq_true rfl) ⟨Nat.le_of_ble_eq_true rfl, Nat.le_of_ble_eq_true rfl⟩ ⟨Nat.le_of_ble_eq_true rfl, Nat.le_of_ble_eq_true rfl⟩ (Nat.le_of_ble_eq_true rfl) (Nat.le_of_ble_eq_true rfl) (fun _ _ h => h.elim) (fun r1 τ hp => ?_)
  obtain ⟨rfl, hp⟩ := hp
  refine gz_norm (st' := [.int r1]) (cells' := 0) (slots' := 0) rfl rfl rfl ?_
  refine gz_if_eq K 26 dX8_writeNext_4 (by decide) (fun h => ?_) (fun h => ?_)
  · have hp := hp.1 h
    refine gz_iload_n K dX8_writeNext_26 1 rfl ?_
    refine gz_bipush K (v := (40 : Int32)) dX8_writeNext_27 (by decide) ?_
    refine gz_icmp_eq K 38 dX8_writeNext_29 (by decide) (fun h => ?_) (fun h => ?_)
    · have hp := hp.1 h
      refine gz_aload_n K dX8_writeNext_38 0 rfl ?_
      refine gz_aload_n K dX8_writeNext_39 2 rfl ?_
      refine gz_callV K hex (c_X6_length K.2.2.2.2.2 K.2.2.1 h2 hp) cf_X6_length zq3_152 (ceW h2).1 ((ceW h2).2 _ _ _ _ _ _) rfl dX8_writeNext_40 rfl rfl (Nat.le_of_ble_eq_true rfl) ⟨Nat.le_of_ble_eq_true rfl, Nat.le_of_ble_eq_true rfl⟩ ⟨Nat.le_of_ble_eq_true rfl, Nat.le_of_ble_eq_true rfl⟩ (Nat.le_of_ble_eq_true rfl) (Nat.le_of_ble_eq_true rfl) (fun _ _ h => h.elim) (fun r40 τ hp => ?_)
      obtain ⟨rfl, hp⟩ := hp
      refine gz_norm (st' := [.int r40, .ref (ad 6)]) (cells' := 0) (slots' := 0) rfl rfl rfl ?_
      refine gz_callV K hex (c_X8_begin K.2.2.2.2.2 K.2.2.1 hp) cf_X8_begin zq3_154 (by decide) (ce_6 _ _ _ _ _ _) rfl dX8_writeNext_43 rfl rfl (Nat.le_of_ble_eq_true rfl) ⟨Nat.le_of_ble_eq_true rfl, Nat.le_of_ble_eq_true rfl⟩ ⟨Nat.le_of_ble_eq_true rfl, Nat.le_of_ble_eq_true rfl⟩ (Nat.le_of_ble_eq_true rfl) (Nat.le_of_ble_eq_true rfl) (fun _ _ h => h.elim) (fun r43 τ43 hp => ?_)
      refine gz_norm (st' := [.int r43]) (cells' := 0) (slots' := 0) rfl rfl rfl ?_
      exact gz_zret K hr (nB hp.1) hp.2 dX8_writeNext_46 (Nat.le_of_ble_eq_true rfl) (Nat.le_of_ble_eq_true rfl)
    · have hp := hp.2 h
      refine gz_iload_n K dX8_writeNext_32 1 rfl ?_
      refine gz_bipush K (v := (60 : Int32)) dX8_writeNext_33 (by decide) ?_
      refine gz_icmp_ne K 47 dX8_writeNext_35 (by decide) (fun h => ?_) (fun h => ?_)
      · have hp := hp.1 h
        refine gz_iload_n K dX8_writeNext_47 1 rfl ?_
        refine gz_bipush K (v := (44 : Int32)) dX8_writeNext_48 (by decide) ?_
        refine gz_icmp_ne K 62 dX8_writeNext_50 (by decide) (fun h => ?_) (fun h => ?_)
        · have hp := hp.1 h
          refine gz_iload_n K dX8_writeNext_62 1 rfl ?_
          refine gz_bipush K (v := (41 : Int32)) dX8_writeNext_63 (by decide) ?_
          refine gz_icmp_eq K 74 dX8_writeNext_65 (by decide) (fun h => ?_) (fun h => ?_)
          · have hp := hp.1 h
            exact bb_74 σ x1  hp
          · have hp := hp.2 h
            refine gz_iload_n K dX8_writeNext_68 1 rfl ?_
            refine gz_bipush K (v := (62 : Int32)) dX8_writeNext_69 (by decide) ?_
            refine gz_icmp_ne K 91 dX8_writeNext_71 (by decide) (fun h => ?_) (fun h => ?_)
            · have hp := hp.1 h
              refine gz_iload_n K dX8_writeNext_91 1 rfl ?_
              refine gz_bipush K (v := (39 : Int32)) dX8_writeNext_92 (by decide) ?_
              refine gz_icmp_ne K 107 dX8_writeNext_94 (by decide) (fun h => ?_) (fun h => ?_)
              · have hp := hp.1 h
                refine gz_aload_n K dX8_writeNext_107 2 rfl ?_
                refine gz_aload_n K dX8_writeNext_108 0 rfl ?_
                refine gz_get K (v := .int (gz_i σ 6 3)) (by decide) (ce_6 _ _ _ _ _ _) rfl inz_X8 3 (by decide) zq1_97 rfl dX8_writeNext_109 ?_
                refine gz_iload_n K dX8_writeNext_112 1 rfl ?_
                refine gz_bipush K (v := (48 : Int32)) dX8_writeNext_113 (by decide) ?_
                refine gz_isub K dX8_writeNext_115 ?_
                refine gz_callV K hex (c_X6_repeatFrom K.2.2.2.2.2 K.2.2.1 h2 hp) cf_X6_repeatFrom zq3_178 (ceW h2).1 ((ceW h2).2 _ _ _ _ _ _) rfl dX8_writeNext_116 rfl rfl (Nat.le_of_ble_eq_true rfl) ⟨Nat.le_of_ble_eq_true rfl, Nat.le_of_ble_eq_true rfl⟩ ⟨Nat.le_of_ble_eq_true rfl, Nat.le_of_ble_eq_true rfl⟩ (Nat.le_of_ble_eq_true rfl) (Nat.le_of_ble_eq_true rfl) (fun _ _ h => h.elim) (fun r116 τ116 hp => ?_)
                refine gz_norm (st' := [.int r116]) (cells' := 0) (slots' := 0) rfl rfl rfl ?_
                exact gz_zret K hr (nB hp.1) hp.2 dX8_writeNext_119 (Nat.le_of_ble_eq_true rfl) (Nat.le_of_ble_eq_true rfl)
              · have hp := hp.2 h
                refine gz_aload_n K dX8_writeNext_97 2 rfl ?_
                refine gz_aload_n K dX8_writeNext_98 0 rfl ?_
                refine gz_get K (v := .int (gz_i σ 6 3)) (by decide) (ce_6 _ _ _ _ _ _) rfl inz_X8 3 (by decide) zq1_97 rfl dX8_writeNext_99 ?_
                refine gz_callV K hex (c_X6_invertFrom K.2.2.2.2.2 K.2.2.1 h2 hp) cf_X6_invertFrom zq3_174 (ceW h2).1 ((ceW h2).2 _ _ _ _ _ _) rfl dX8_writeNext_102 rfl rfl (Nat.le_of_ble_eq_true rfl) ⟨Nat.le_of_ble_eq_true rfl, Nat.le_of_ble_eq_true rfl⟩ ⟨Nat.le_of_ble_eq_true rfl, Nat.le_of_ble_eq_true rfl⟩ (Nat.le_of_ble_eq_true rfl) (Nat.le_of_ble_eq_true rfl) (fun _ _ h => h.elim) (fun _ τ102 hp => ?_)
                refine gz_norm (st' := []) (cells' := 0) (slots' := 0) rfl rfl rfl ?_
                refine gz_iconst K (v := (1 : Int32)) dX8_writeNext_105 (by decide) ?_
                exact gz_zret K hr (by decide) hp dX8_writeNext_106 (Nat.le_of_ble_eq_true rfl) (Nat.le_of_ble_eq_true rfl)
            · have hp := hp.2 h
              exact bb_74 σ x1  hp
        · have hp := hp.2 h
          refine gz_aload_n K dX8_writeNext_53 0 rfl ?_
          refine gz_aload_n K dX8_writeNext_54 2 rfl ?_
          refine gz_callV K hex (c_X6_length K.2.2.2.2.2 K.2.2.1 h2 hp) cf_X6_length zq3_152 (ceW h2).1 ((ceW h2).2 _ _ _ _ _ _) rfl dX8_writeNext_55 rfl rfl (Nat.le_of_ble_eq_true rfl) ⟨Nat.le_of_ble_eq_true rfl, Nat.le_of_ble_eq_true rfl⟩ ⟨Nat.le_of_ble_eq_true rfl, Nat.le_of_ble_eq_true rfl⟩ (Nat.le_of_ble_eq_true rfl) (Nat.le_of_ble_eq_true rfl) (fun _ _ h => h.elim) (fun r55 τ hp => ?_)
          obtain ⟨rfl, hp⟩ := hp
          refine gz_norm (st' := [.int r55, .ref (ad 6)]) (cells' := 0) (slots' := 0) rfl rfl rfl ?_
          refine gz_callV K hex (c_X8_divide K.2.2.2.2.2 K.2.2.1 hp) cf_X8_divide zq3_158 (by decide) (ce_6 _ _ _ _ _ _) rfl dX8_writeNext_58 rfl rfl (Nat.le_of_ble_eq_true rfl) ⟨Nat.le_of_ble_eq_true rfl, Nat.le_of_ble_eq_true rfl⟩ ⟨Nat.le_of_ble_eq_true rfl, Nat.le_of_ble_eq_true rfl⟩ (Nat.le_of_ble_eq_true rfl) (Nat.le_of_ble_eq_true rfl) (fun _ _ h => h.elim) (fun r58 τ58 hp => ?_)
          refine gz_norm (st' := [.int r58]) (cells' := 0) (slots' := 0) rfl rfl rfl ?_
          exact gz_zret K hr (nB hp.1) hp.2 dX8_writeNext_61 (Nat.le_of_ble_eq_true rfl) (Nat.le_of_ble_eq_true rfl)
      · have hp := hp.2 h
        refine gz_aload_n K dX8_writeNext_38 0 rfl ?_
        refine gz_aload_n K dX8_writeNext_39 2 rfl ?_
        refine gz_callV K hex (c_X6_length K.2.2.2.2.2 K.2.2.1 h2 hp) cf_X6_length zq3_152 (ceW h2).1 ((ceW h2).2 _ _ _ _ _ _) rfl dX8_writeNext_40 rfl rfl (Nat.le_of_ble_eq_true rfl) ⟨Nat.le_of_ble_eq_true rfl, Nat.le_of_ble_eq_true rfl⟩ ⟨Nat.le_of_ble_eq_true rfl, Nat.le_of_ble_eq_true rfl⟩ (Nat.le_of_ble_eq_true rfl) (Nat.le_of_ble_eq_true rfl) (fun _ _ h => h.elim) (fun r40 τ hp => ?_)
        obtain ⟨rfl, hp⟩ := hp
        refine gz_norm (st' := [.int r40, .ref (ad 6)]) (cells' := 0) (slots' := 0) rfl rfl rfl ?_
        refine gz_callV K hex (c_X8_begin K.2.2.2.2.2 K.2.2.1 hp) cf_X8_begin zq3_154 (by decide) (ce_6 _ _ _ _ _ _) rfl dX8_writeNext_43 rfl rfl (Nat.le_of_ble_eq_true rfl) ⟨Nat.le_of_ble_eq_true rfl, Nat.le_of_ble_eq_true rfl⟩ ⟨Nat.le_of_ble_eq_true rfl, Nat.le_of_ble_eq_true rfl⟩ (Nat.le_of_ble_eq_true rfl) (Nat.le_of_ble_eq_true rfl) (fun _ _ h => h.elim) (fun r43 τ43 hp => ?_)
        refine gz_norm (st' := [.int r43]) (cells' := 0) (slots' := 0) rfl rfl rfl ?_
        exact gz_zret K hr (nB hp.1) hp.2 dX8_writeNext_46 (Nat.le_of_ble_eq_true rfl) (Nat.le_of_ble_eq_true rfl)
  · have hp := hp.2 h
    refine gz_aload_n K dX8_writeNext_7 0 rfl ?_
    refine gz_aload_n K dX8_writeNext_8 2 rfl ?_
    refine gz_callV K hex (c_X6_length K.2.2.2.2.2 K.2.2.1 h2 hp) cf_X6_length zq3_152 (ceW h2).1 ((ceW h2).2 _ _ _ _ _ _) rfl dX8_writeNext_9 rfl rfl (Nat.le_of_ble_eq_true rfl) ⟨Nat.le_of_ble_eq_true rfl, Nat.le_of_ble_eq_true rfl⟩ ⟨Nat.le_of_ble_eq_true rfl, Nat.le_of_ble_eq_true rfl⟩ (Nat.le_of_ble_eq_true rfl) (Nat.le_of_ble_eq_true rfl) (fun _ _ h => h.elim) (fun r9 τ hp => ?_)
    obtain ⟨rfl, hp⟩ := hp
    refine gz_norm (st' := [.int r9, .ref (ad 6)]) (cells' := 0) (slots' := 0) rfl rfl rfl ?_
    refine gz_put K (x := r9) (by decide) (ce_6 _ _ _ _ _ _) rfl inz_X8 tyX8 tyX8_ok nmX8 3 (by decide) zq1_97 rfl (tyX8_ok _ (by decide)) rfl rfl (Nat.le_of_ble_eq_true rfl) peX8_3 dX8_writeNext_12 ?_
    refine gz_aload_n K dX8_writeNext_15 2 rfl ?_
    refine gz_iconst K (v := (2 : Int32)) dX8_writeNext_16 (by decide) ?_
    refine gz_iload_n K dX8_writeNext_17 1 rfl ?_
    refine gz_bipush K (v := (97 : Int32)) dX8_writeNext_18 (by decide) ?_
    refine gz_isub K dX8_writeNext_20 ?_
    refine gz_imul K dX8_writeNext_21 ?_
    refine gz_callV K hex (c_X6_add K.2.2.2.2.2 K.2.2.1 h2 hp) cf_X6_add zq3_153 (ceW h2).1 ((ceW h2).2 _ _ _ _ _ _) rfl dX8_writeNext_22 rfl rfl (Nat.le_of_ble_eq_true rfl) ⟨Nat.le_of_ble_eq_true rfl, Nat.le_of_ble_eq_true rfl⟩ ⟨Nat.le_of_ble_eq_true rfl, Nat.le_of_ble_eq_true rfl⟩ (Nat.le_of_ble_eq_true rfl) (Nat.le_of_ble_eq_true rfl) (fun _ _ h => h.elim) (fun r22 τ22 hp => ?_)
    refine gz_norm (st' := [.int r22]) (cells' := 0) (slots' := 0) rfl rfl rfl ?_
    exact gz_zret K hr (nB hp.1) hp.2 dX8_writeNext_25 (Nat.le_of_ble_eq_true rfl) (Nat.le_of_ble_eq_true rfl)
set_option maxRecDepth 100000 in
set_option maxHeartbeats 4000000 in
theorem c_X8_write {l : Launch} {D : va_G} {ad : Nat → Nat} {ty : Nat → ClassId} (hl : l.stackTraces = false) (hj : ∀ i j, i < 68 → j < 68 → ad i = ad j → i = j) {σ : Dz} {w2 : Nat} (h2 : isW w2) {post : Int32 → Dz → Prop} (hp : P_X8_write σ w2 post) : Mz l D ad ty yX8_write cX8_write 5 (some .boolean) r_X8_write nI0 σ [.ref (ad 6), .ref (ad 1), .ref (ad w2)] post (fun _ _ => False) := by
  refine mz_of (by decide) hl hj (Nat.le_of_ble_eq_true rfl) ?_
  intro p e s m args below meth c K hex hr
  unfold P_X8_write at hp
  show Gz p l e r_X8_write s m args below meth c D ad ty 5 0 0 (Ez below D ad ty nI0 post (fun _ _ => False) args s 0 0) σ 0 [(0, .ref (ad 6)), (1, .ref (ad 1)), (2, .ref (ad w2))] []
  refine gz_aload_n K dX8_write_0 2 rfl ?_
  refine gz_callV K hex (c_X6_clear K.2.2.2.2.2 K.2.2.1 h2 hp) cf_X6_clear zq3_144 (ceW h2).1 ((ceW h2).2 _ _ _ _ _ _) rfl dX8_write_1 rfl rfl (Nat.le_of_ble_eq_true rfl) ⟨Nat.le_of_ble_eq_true rfl, Nat.le_of_ble_eq_true rfl⟩ ⟨Nat.le_of_ble_eq_true rfl, Nat.le_of_ble_eq_true rfl⟩ (Nat.le_of_ble_eq_true rfl) (Nat.le_of_ble_eq_true rfl) (fun _ _ h => h.elim) (fun _ τ1 hp => ?_)
  refine gz_norm (st' := []) (cells' := 0) (slots' := 0) rfl rfl rfl ?_
  refine gz_aload_n K dX8_write_4 0 rfl ?_
  refine gz_iconst K (v := (0 : Int32)) dX8_write_5 (by decide) ?_
  refine gz_put K (x := (0 : Int32)) (by decide) (ce_6 _ _ _ _ _ _) rfl inz_X8 tyX8 tyX8_ok nmX8 2 (by decide) zq1_96 rfl (tyX8_ok _ (by decide)) rfl rfl (Nat.le_of_ble_eq_true rfl) peX8_2 dX8_write_6 ?_
  refine gz_aload_n K dX8_write_9 0 rfl ?_
  refine gz_iconst K (v := (0 : Int32)) dX8_write_10 (by decide) ?_
  refine gz_put K (x := (0 : Int32)) (by decide) (ce_6 _ _ _ _ _ _) rfl inz_X8 tyX8 tyX8_ok nmX8 3 (by decide) zq1_97 rfl (tyX8_ok _ (by decide)) rfl rfl (Nat.le_of_ble_eq_true rfl) peX8_3 dX8_write_11 ?_
  refine gz_iconst K (v := (1 : Int32)) dX8_write_14 (by decide) ?_
  refine gz_istore_n K [(3, .int (1 : Int32)), (0, .ref (ad 6)), (1, .ref (ad 1)), (2, .ref (ad w2))] dX8_write_15 (by decide) rfl ?_
  refine gz_iconst K (v := (0 : Int32)) dX8_write_16 (by decide) ?_
  refine gz_istore K [(4, .int (0 : Int32)), (3, .int (1 : Int32)), (0, .ref (ad 6)), (1, .ref (ad 1)), (2, .ref (ad w2))] dX8_write_17 (by decide) rfl ?_
  refine gz_sub [2, 3, 4, 1, 0] rfl ?_
  have ll_19 : ∀ (n_19 : Nat) (σ : Dz) (y3 : Int32) (y4 : Int32) , L_X8_write_19 w2 post  n_19 σ y3 y4 → Gz p l e r_X8_write s m args below meth c D ad ty 5 0 0 (Ez below D ad ty nI0 post (fun _ _ => False) args s 0 0) σ 19 [(0, .ref (ad 6)), (1, .ref (ad 1)), (2, .ref (ad w2)), (3, .int y3), (4, .int y4)] [] := by
    intro n_19; induction n_19 with
    | zero => intro σ y3 y4 hp; exact False.elim hp
    | succ n_19 ih_19 =>
      intro σ y3 y4 hp
      have hp : B_X8_write_19 w2 post  (L_X8_write_19 w2 post  n_19) σ y3 y4 := hp
      unfold B_X8_write_19 at hp
      refine gz_iload_n K dX8_write_19 3 rfl ?_
      refine gz_if_eq K 50 dX8_write_20 (by decide) (fun h => ?_) (fun h => ?_)
      · have hp := hp.1 h
        refine gz_iload_n K dX8_write_50 3 rfl ?_
        exact gz_zret K hr (nB hp.1) hp.2 dX8_write_51 (Nat.le_of_ble_eq_true rfl) (Nat.le_of_ble_eq_true rfl)
      · have hp := hp.2 h
        refine gz_iload K dX8_write_23 4 rfl ?_
        refine gz_aload_n K dX8_write_25 1 rfl ?_
        refine gz_callV K hex (c_X5_length K.2.2.2.2.2 K.2.2.1 hp) cf_X5_length zq3_145 (by decide) (ce_1 _ _ _ _ _ _) rfl dX8_write_26 rfl rfl (Nat.le_of_ble_eq_true rfl) ⟨Nat.le_of_ble_eq_true rfl, Nat.le_of_ble_eq_true rfl⟩ ⟨Nat.le_of_ble_eq_true rfl, Nat.le_of_ble_eq_true rfl⟩ (Nat.le_of_ble_eq_true rfl) (Nat.le_of_ble_eq_true rfl) (fun _ _ h => h.elim) (fun r26 τ hp => ?_)
        obtain ⟨rfl, hp⟩ := hp
        refine gz_norm (st' := [.int r26, .int y4]) (cells' := 0) (slots' := 0) rfl rfl rfl ?_
        refine gz_icmp_ge K 50 dX8_write_29 (by decide) (fun h => ?_) (fun h => ?_)
        · have hp := hp.1 h
          refine gz_iload_n K dX8_write_50 3 rfl ?_
          exact gz_zret K hr (nB hp.1) hp.2 dX8_write_51 (Nat.le_of_ble_eq_true rfl) (Nat.le_of_ble_eq_true rfl)
        · have hp := hp.2 h
          refine gz_aload_n K dX8_write_32 0 rfl ?_
          refine gz_aload_n K dX8_write_33 1 rfl ?_
          refine gz_iload K dX8_write_34 4 rfl ?_
          refine gz_callV K hex (c_X5_at K.2.2.2.2.2 K.2.2.1 hp) cf_X5_at zq3_146 (by decide) (ce_1 _ _ _ _ _ _) rfl dX8_write_36 rfl rfl (Nat.le_of_ble_eq_true rfl) ⟨Nat.le_of_ble_eq_true rfl, Nat.le_of_ble_eq_true rfl⟩ ⟨Nat.le_of_ble_eq_true rfl, Nat.le_of_ble_eq_true rfl⟩ (Nat.le_of_ble_eq_true rfl) (Nat.le_of_ble_eq_true rfl) (fun _ _ h => h.elim) (fun r36 τ hp => ?_)
          obtain ⟨rfl, hp⟩ := hp
          refine gz_norm (st' := [.int r36, .ref (ad 6)]) (cells' := 0) (slots' := 0) rfl rfl rfl ?_
          refine gz_aload_n K dX8_write_39 2 rfl ?_
          refine gz_callV K hex (c_X8_writeNext K.2.2.2.2.2 K.2.2.1 h2 hp) cf_X8_writeNext zq3_147 (by decide) (ce_6 _ _ _ _ _ _) rfl dX8_write_40 rfl rfl (Nat.le_of_ble_eq_true rfl) ⟨Nat.le_of_ble_eq_true rfl, Nat.le_of_ble_eq_true rfl⟩ ⟨Nat.le_of_ble_eq_true rfl, Nat.le_of_ble_eq_true rfl⟩ (Nat.le_of_ble_eq_true rfl) (Nat.le_of_ble_eq_true rfl) (fun _ _ h => h.elim) (fun r40 τ40 hp => ?_)
          refine gz_norm (st' := [.int r40]) (cells' := 0) (slots' := 0) rfl rfl rfl ?_
          refine gz_istore_n K [(3, .int r40), (0, .ref (ad 6)), (1, .ref (ad 1)), (2, .ref (ad w2)), (4, .int y4)] dX8_write_43 (by decide) rfl ?_
          refine gz_iinc K (v := (y4 + 1)) [(4, .int (y4 + 1)), (3, .int r40), (0, .ref (ad 6)), (1, .ref (ad 1)), (2, .ref (ad w2))] dX8_write_44 4 rfl (by first | rfl | decide) (by decide) rfl ?_
          refine gz_goto K 19 dX8_write_47 (by decide) ?_
          refine gz_sub [2, 3, 4, 1, 0] rfl ?_
          exact ih_19 τ40 r40 (y4 + 1)  hp
  obtain ⟨n, hp⟩ := hp
  exact ll_19 n (sz_i (sz_i τ1 6 2 (0 : Int32)) 6 3 (0 : Int32)) (1 : Int32) (0 : Int32)  hp
